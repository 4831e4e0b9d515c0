/** Promises 1 to 8: what is put in, and what is refused. */
public final class RowsTest {
    private static final Check CHECK = new Check();

    public static void main(String[] args) {
        newObjectIsEmpty();
        newObjectsShareNothing();
        sourcesAreNumbered();
        sourcesHaveABranch();
        sourcesCountSixteenReviews();
        fetchedAsksForASource();
        fetchedAgainCountsTheLatest();
        artefactsAreNumbered();
        artefactsAreAsTold();
        usesAsksForBoth();
        usesTakesSix();
        needsAsksForAnArtefact();
        needsTakesSix();
        needsTakesItsOwnDigest();
        pathAsksForBoth();
        pathAgainCountsTheLatest();
        policyTakesSixteen();
        policyAsksForAKind();
        CHECK.end();
    }

    private static void newObjectIsEmpty() {
        ProvenanceRows x = new ProvenanceRows();
        CHECK.due("new: verdict(0)", x.verdict(0), -2);
        CHECK.due("new: culprit()", x.culprit(), -1);
        CHECK.due("new: breaks(0, 0)", x.breaks(0, 0), false);
        CHECK.due("new: closure(0)", x.closure(0), -1);
        CHECK.due("new: at(0)", x.at(0), -1);
        CHECK.due("new: holds(0, 0)", x.holds(0, 0), -1);
        CHECK.due("new: missing(0, 0)", x.missing(0, 0), -1);
        CHECK.due("new: rebuilt(0, 0)", x.rebuilt(0, 0), -1);
        CHECK.due("new: differ(0, 0)", x.differ(0, 0), -1);
        CHECK.due("new: clash(0, 0)", x.clash(0, 0), -1);
        CHECK.due("new: fetched(0, true)", x.fetched(0, true), false);
        CHECK.due("new: uses(0, 0)", x.uses(0, 0), false);
        CHECK.due("new: needs(0, 0)", x.needs(0, 0), false);
        CHECK.due("new: path(0, 0, 0)", x.path(0, 0, 0), false);
        CHECK.due("new: NONE", ProvenanceRows.NONE, -1);
    }

    private static void newObjectsShareNothing() {
        ProvenanceRows x = Check.with(2, 2);
        x.policy(8, 0);
        x.verdict(1);
        x.closure(1);
        ProvenanceRows y = new ProvenanceRows();
        CHECK.due("second object: culprit()", y.culprit(), -1);
        CHECK.due("second object: at(0)", y.at(0), -1);
        CHECK.due("second object: source", y.source(1, 0, 0), 0);
        CHECK.due("second object: artefact", y.artefact(1, 0, 0, 0, 0), 0);
        CHECK.due("second object: verdict(0)", y.verdict(0), -1);
        CHECK.due("second object: policy", y.policy(0, 0), 0);
    }

    private static void sourcesAreNumbered() {
        ProvenanceRows x = new ProvenanceRows();
        for (int k = 0; k < 24; k++) {
            CHECK.due("source " + k, x.source(7, k % 8, -1), k);
        }
        CHECK.due("source beyond 24", x.source(8, 0, 0), -1);
        CHECK.due("source beyond 24, again", x.source(8, 0, 0), -1);
        CHECK.due("fetched(23)", x.fetched(23, true), true);
        CHECK.due("fetched(24)", x.fetched(24, true), false);
    }

    private static void sourcesHaveABranch() {
        ProvenanceRows x = new ProvenanceRows();
        for (int branch : new int[] {-1, 8, 9, Integer.MIN_VALUE, Integer.MAX_VALUE}) {
            CHECK.due("source of branch " + branch, x.source(1, branch, 0), -1);
        }
        CHECK.due("source after refused ones", x.source(1, 7, 0), 0);
        CHECK.due("source of branch 0", x.source(Long.MIN_VALUE, 0, 0), 1);
    }

    private static void sourcesCountSixteenReviews() {
        ProvenanceRows x = Check.withArtefacts(2);
        x.source(1, 0, -1);
        x.source(2, 0, 0xFFFF0000);
        x.uses(0, 0);
        x.uses(1, 1);
        x.policy(3, 15);
        x.policy(3, 16);
        x.policy(3, 1);
        CHECK.due("15 others reviewed", x.breaks(0, 0), false);
        CHECK.due("no 16 others reviewed", x.breaks(0, 1), true);
        CHECK.due("bits 16 to 31 are no persons", x.breaks(1, 2), true);
    }

    private static void fetchedAsksForASource() {
        ProvenanceRows x = Check.with(1, 2);
        for (int source : Check.WRONG_NUMBERS) {
            CHECK.due("fetched(" + source + ")", x.fetched(source, false), false);
        }
        CHECK.due("fetched(2)", x.fetched(2, false), false);
        CHECK.due("fetched(1)", x.fetched(1, false), true);
    }

    private static void fetchedAgainCountsTheLatest() {
        ProvenanceRows x = Check.with(1, 1);
        x.uses(0, 0);
        x.policy(4, 0);
        CHECK.due("not fetched", x.breaks(0, 0), false);
        x.fetched(0, true);
        CHECK.due("fetched, told", x.breaks(0, 0), false);
        x.fetched(0, false);
        CHECK.due("fetched, not told", x.breaks(0, 0), true);
        x.fetched(0, true);
        CHECK.due("fetched again, told", x.breaks(0, 0), false);
    }

    private static void artefactsAreNumbered() {
        ProvenanceRows x = new ProvenanceRows();
        for (int k = 0; k < 32; k++) {
            CHECK.due("artefact " + k, x.artefact(5, k % 9 - 1, k % 8, k % 16, k), k);
        }
        CHECK.due("artefact beyond 32", x.artefact(5, 0, 0, 0, 0), -1);
        CHECK.due("artefact beyond 32, again", x.artefact(5, 0, 0, 0, 0), -1);
        CHECK.due("closure(31)", x.closure(31), 1);
        CHECK.due("closure(32)", x.closure(32), -1);
    }

    private static void artefactsAreAsTold() {
        ProvenanceRows x = new ProvenanceRows();
        for (int wrong : new int[] {-2, 8, Integer.MIN_VALUE, Integer.MAX_VALUE}) {
            CHECK.due("artefact of builder " + wrong, x.artefact(1, wrong, 0, 0, 0), -1);
        }
        for (int wrong : new int[] {-1, 8, Integer.MIN_VALUE, Integer.MAX_VALUE}) {
            CHECK.due("artefact of tool " + wrong, x.artefact(1, 0, wrong, 0, 0), -1);
        }
        for (int wrong : new int[] {-1, 16, Integer.MIN_VALUE, Integer.MAX_VALUE}) {
            CHECK.due("artefact of author " + wrong, x.artefact(1, 0, 0, wrong, 0), -1);
        }
        for (int wrong : new int[] {-1, 1000000001, Integer.MIN_VALUE, Integer.MAX_VALUE}) {
            CHECK.due("artefact of time " + wrong, x.artefact(1, 0, 0, 0, wrong), -1);
        }
        CHECK.due("artefact at the upper edges", x.artefact(1, 7, 7, 15, 1000000000), 0);
        CHECK.due("artefact at the lower edges", x.artefact(1, -1, 0, 0, 0), 1);
        CHECK.due("artefact of builder 0", x.artefact(1, 0, 0, 0, 0), 2);
    }

    private static void usesAsksForBoth() {
        ProvenanceRows x = Check.with(2, 2);
        for (int wrong : Check.WRONG_NUMBERS) {
            CHECK.due("uses(" + wrong + ", 0)", x.uses(wrong, 0), false);
            CHECK.due("uses(0, " + wrong + ")", x.uses(0, wrong), false);
        }
        CHECK.due("uses(2, 0)", x.uses(2, 0), false);
        CHECK.due("uses(0, 2)", x.uses(0, 2), false);
        CHECK.due("nothing came", x.differ(0, 1), 1);
        CHECK.due("uses(1, 1)", x.uses(1, 1), true);
        CHECK.due("one came", x.differ(0, 1), 1 + 32);
    }

    private static void usesTakesSix() {
        ProvenanceRows x = Check.with(2, 8);
        for (int source = 0; source < 6; source++) {
            CHECK.due("uses(0, " + source + ")", x.uses(0, source), true);
            CHECK.due("uses(0, " + source + ") again", x.uses(0, source), false);
        }
        CHECK.due("a seventh source", x.uses(0, 6), false);
        CHECK.due("holds(7, 0) without the seventh", x.holds(7, 0), -1);
        CHECK.due("uses of another artefact", x.uses(1, 6), true);
        CHECK.due("holds(6, 0)", x.holds(6, 0), 0);
        CHECK.due("holds(7, 0)", x.holds(7, 0), 1);
    }

    private static void needsAsksForAnArtefact() {
        ProvenanceRows x = Check.withArtefacts(2);
        for (int wrong : Check.WRONG_NUMBERS) {
            CHECK.due("needs(" + wrong + ", 1000)", x.needs(wrong, 1000), false);
        }
        CHECK.due("needs(2, 1000)", x.needs(2, 1000), false);
        CHECK.due("nothing came", x.closure(1), 1);
        CHECK.due("needs(1, 1000)", x.needs(1, 1000), true);
        CHECK.due("one came", x.closure(1), 2);
    }

    private static void needsTakesSix() {
        ProvenanceRows x = Check.withArtefacts(2);
        long[] digests = {0, -1, Long.MIN_VALUE, Long.MAX_VALUE, 1L << 32, 5};
        for (long digest : digests) {
            CHECK.due("needs(0, " + digest + ")", x.needs(0, digest), true);
            CHECK.due("needs(0, " + digest + ") again", x.needs(0, digest), false);
        }
        CHECK.due("a seventh need", x.needs(0, 6), false);
        CHECK.due("missing(0, 5)", x.missing(0, 5), 5);
        CHECK.due("missing(0, 6)", x.missing(0, 6), -1);
        CHECK.due("needs of another artefact", x.needs(1, 6), true);
    }

    private static void needsTakesItsOwnDigest() {
        ProvenanceRows x = Check.withArtefacts(1);
        CHECK.due("needs(0, 1000)", x.needs(0, 1000), true);
        CHECK.due("it meets its own need", x.missing(0, 0), -1);
        CHECK.due("closure(0)", x.closure(0), 1);
    }

    private static void pathAsksForBoth() {
        ProvenanceRows x = Check.withArtefacts(2);
        for (int wrong : Check.WRONG_NUMBERS) {
            CHECK.due("path(" + wrong + ", 0, 1)", x.path(wrong, 0, 1), false);
            CHECK.due("path(0, " + wrong + ", 1)", x.path(0, wrong, 1), false);
        }
        CHECK.due("path(2, 0, 1)", x.path(2, 0, 1), false);
        CHECK.due("path(0, 8, 1)", x.path(0, 8, 1), false);
        CHECK.due("nothing came", x.rebuilt(0, 1), 0);
        CHECK.due("path(0, 0, 1)", x.path(0, 0, 1), true);
        CHECK.due("path(1, 7, 1)", x.path(1, 7, 1), true);
        CHECK.due("two came", x.rebuilt(0, 1), 1 + 128);
    }

    private static void pathAgainCountsTheLatest() {
        ProvenanceRows x = Check.withArtefacts(2);
        x.path(0, 2, 1);
        x.path(1, 2, 2);
        CHECK.due("two digests", x.rebuilt(0, 1), 4);
        CHECK.due("path again", x.path(1, 2, 1), true);
        CHECK.due("one digest", x.rebuilt(0, 1), 0);
    }

    private static void policyTakesSixteen() {
        ProvenanceRows x = Check.withArtefacts(1);
        for (int k = 0; k < 16; k++) {
            CHECK.due("policy " + k, x.policy(k == 15 ? 8 : 5, 0), k);
        }
        CHECK.due("policy beyond 16", x.policy(8, 0), -1);
        CHECK.due("policy beyond 16, again", x.policy(8, 0), -1);
        CHECK.due("the sixteenth is broken", x.verdict(0), 15);
        CHECK.due("breaks(0, 15)", x.breaks(0, 15), true);
        CHECK.due("breaks(0, 16)", x.breaks(0, 16), false);
    }

    private static void policyAsksForAKind() {
        ProvenanceRows x = new ProvenanceRows();
        for (int kind : new int[] {-1, 10, 11, Integer.MIN_VALUE, Integer.MAX_VALUE}) {
            CHECK.due("policy(" + kind + ", 0)", x.policy(kind, 0), -1);
        }
        for (int kind = 0; kind <= 9; kind++) {
            int v = kind % 2 == 0 ? Integer.MIN_VALUE : Integer.MAX_VALUE;
            CHECK.due("policy(" + kind + ", " + v + ")", x.policy(kind, v), kind);
        }
    }
}
