/** Promises 1 to 8 at their edges: each sentence that names an edge has a test of its own. */
public final class TellEdgesTest {
    private static final Check CHECK = new Check();
    private static final int LEAST = Integer.MIN_VALUE;
    private static final int GREATEST = Integer.MAX_VALUE;

    public static void main(String[] args) {
        promise1NoSources();
        promise1NoArtefacts();
        promise1NoRules();
        promise2NoneIfThereAre24();
        promise2NoneIfBranchIsNotAsTold();
        promise2LowestSixteenBitsOfReviewsCount();
        promise2AnyDigestAlsoTwice();
        promise3FalseIfThereIsNoneSuch();
        promise3FetchedToldOrNot();
        promise4NoneIfThereAre32();
        promise4NoneIfBuilderIsNotAsTold();
        promise4NoneIfToolIsNotAsTold();
        promise4NoneIfAuthorIsNotAsTold();
        promise4NoneIfTimeIsNotAsTold();
        promise4RefusedOnesMeetNoNeed();
        promise4BuilderNoneIsUnknown();
        promise5FalseIfThereIsNoSuchArtefact();
        promise5FalseIfThereIsNoSuchSource();
        promise5FalseIfItIsThere();
        promise5FalseIfThereAreSix();
        promise5ComesAtTheEnd();
        promise6FalseIfThereIsNoSuchArtefact();
        promise6FalseIfItIsThere();
        promise6FalseIfThereAreSix();
        promise6ComesAtTheEnd();
        promise7FalseIfThereIsNoSuchArtefact();
        promise7FalseIfThereIsNoSuchPath();
        promise7FirstAndLastPath();
        promise8NoneIfThereAre16();
        promise8NoneIfNoSuchKind();
        promise8AnyValue();
        CHECK.end();
    }

    private static void promise1NoSources() {
        CHECK.about("1, no SOURCES");
        ProvenanceRows x = Check.withArtefacts(1);
        for (int source : Check.outside(0, -1)) {
            CHECK.due("fetched(" + source + ")", x.fetched(source, true), false);
            CHECK.due("uses(0, " + source + ")", x.uses(0, source), false);
        }
        for (long digest : Check.DIGESTS) {
            CHECK.due("holds(" + digest + ", 0)", x.holds(digest, 0), -1);
        }
        CHECK.due("the first source", x.source(0, 0, 0), 0);
    }

    private static void promise1NoArtefacts() {
        CHECK.about("1, no ARTEFACTS");
        ProvenanceRows x = Check.with(0, 1);
        x.policy(8, 0);
        for (int none : Check.outside(0, -1)) {
            CHECK.due("uses(" + none + ", 0)", x.uses(none, 0), false);
            CHECK.due("needs(" + none + ", 0)", x.needs(none, 0), false);
            CHECK.due("path(" + none + ", 0, 0)", x.path(none, 0, 0), false);
            CHECK.due("verdict(" + none + ")", x.verdict(none), -2);
            CHECK.due("breaks(" + none + ", 0)", x.breaks(none, 0), false);
            CHECK.due("closure(" + none + ")", x.closure(none), -1);
            CHECK.due("at(" + none + ")", x.at(none), -1);
            CHECK.due("holds(1, " + none + ")", x.holds(1, none), -1);
            CHECK.due("missing(" + none + ", 0)", x.missing(none, 0), -1);
            CHECK.due("rebuilt(" + none + ", 0)", x.rebuilt(none, 0), -1);
            CHECK.due("differ(" + none + ", 0)", x.differ(none, 0), -1);
            CHECK.due("clash(" + none + ", 0)", x.clash(none, 0), -1);
        }
        CHECK.due("culprit()", x.culprit(), -1);
        CHECK.due("the first artefact", x.artefact(0, 0, 0, 0, 0), 0);
    }

    private static void promise1NoRules() {
        CHECK.about("1, no RULES");
        ProvenanceRows x = Check.withArtefacts(1);
        for (int rule : Check.outside(0, -1)) {
            CHECK.due("breaks(0, " + rule + ")", x.breaks(0, rule), false);
        }
        CHECK.due("verdict(0)", x.verdict(0), -1);
        CHECK.due("culprit()", x.culprit(), -1);
        CHECK.due("the first rule", x.policy(0, 0), 0);
    }

    private static void promise2NoneIfThereAre24() {
        CHECK.about("2, NONE if there are 24");
        ProvenanceRows x = Check.withArtefacts(1);
        for (int k = 0; k < 24; k++) {
            CHECK.due("source " + k, x.source(100 + k, 3, 1), k);
        }
        CHECK.due("one more", x.source(900, 4, 2), -1);
        CHECK.due("another one more", x.source(901, 4, 2), -1);
        CHECK.due("one more of no branch", x.source(902, 8, 2), -1);
        CHECK.due("fetched(24)", x.fetched(24, true), false);
        CHECK.due("uses(0, 24)", x.uses(0, 24), false);
        x.uses(0, 0);
        x.uses(0, 23);
        CHECK.due("the first is as it was", x.holds(100, 0), 0);
        CHECK.due("the last is as it was", x.holds(123, 0), 0);
        CHECK.due("the refused one is none", x.holds(900, 0), -1);
        x.policy(2, 1 << 3);
        CHECK.due("the branches are as they were", x.breaks(0, 0), false);
    }

    private static void promise2NoneIfBranchIsNotAsTold() {
        CHECK.about("2, NONE if BRANCH isn't as told");
        ProvenanceRows x = new ProvenanceRows();
        for (int branch : Check.outside(0, 7)) {
            CHECK.due("source of branch " + branch, x.source(1, branch, 0), -1);
        }
        CHECK.due("no number was taken", x.fetched(0, true), false);
        for (int branch = 0; branch <= 7; branch++) {
            CHECK.due("source of branch " + branch, x.source(1, branch, 0), branch);
        }
    }

    /** Whether just so many persons have reviewed, the author being none of them. */
    private static void dueReviews(int reviews, int author, int want) {
        ProvenanceRows x = new ProvenanceRows();
        x.source(1, 0, reviews);
        x.artefact(1, 0, 0, author, 0);
        x.uses(0, 0);
        x.policy(3, want);
        x.policy(3, want + 1);
        CHECK.due("at least " + want + " in " + reviews, x.breaks(0, 0), false);
        CHECK.due("no more than " + want + " in " + reviews, x.breaks(0, 1), true);
    }

    private static void promise2LowestSixteenBitsOfReviewsCount() {
        CHECK.about("2, of REVIEWS the lowest sixteen bits count");
        for (int bit = 0; bit < 16; bit++) {
            dueReviews(1 << bit, (bit + 1) % 16, 1);
        }
        for (int bit = 16; bit < 32; bit++) {
            dueReviews(1 << bit, bit % 16, 0);
            dueReviews(1 << bit, 0, 0);
        }
        dueReviews(0, 0, 0);
        dueReviews(0xFFFF, 0, 15);
        dueReviews(0xFFFE, 0, 15);
        dueReviews(0x7FFF, 15, 15);
        dueReviews(0xFFFF0000, 0, 0);
        dueReviews(-1, 7, 15);
        dueReviews(GREATEST, 7, 15);
        dueReviews(LEAST, 15, 0);
        dueReviews(LEAST + 1, 15, 1);
    }

    private static void promise2AnyDigestAlsoTwice() {
        CHECK.about("2, a new SOURCE, of any DIGEST, also of one that is there");
        ProvenanceRows x = new ProvenanceRows();
        for (int k = 0; k < 12; k++) {
            CHECK.due("source " + k, x.source(Check.DIGESTS[k], 0, 0), 2 * k);
            CHECK.due("the same again", x.source(Check.DIGESTS[k], 0, 0), 2 * k + 1);
        }
    }

    private static void promise3FalseIfThereIsNoneSuch() {
        CHECK.about("3, false if there is none such");
        for (int count : new int[] {1, 2, 23, 24}) {
            ProvenanceRows x = Check.with(1, count);
            for (int source : Check.outside(0, count - 1)) {
                CHECK.due(count + ": fetched(" + source + ")", x.fetched(source, false), false);
            }
            x.uses(0, 0);
            x.uses(0, count - 1);
            x.policy(4, 0);
            CHECK.due("the refused ones changed nothing", x.breaks(0, 0), false);
            CHECK.due(count + ": the first", x.fetched(0, false), true);
            CHECK.due(count + ": the last", x.fetched(count - 1, false), true);
        }
    }

    private static void promise3FetchedToldOrNot() {
        CHECK.about("3, its DIGEST having been told before, or not");
        for (int source : new int[] {0, 23}) {
            ProvenanceRows x = Check.with(2, 24);
            x.uses(0, source);
            x.uses(1, 23 - source);
            x.policy(4, 0);
            CHECK.due("not fetched", x.breaks(0, 0), false);
            CHECK.due("fetched, not told", x.fetched(source, false), true);
            CHECK.due("not told", x.breaks(0, 0), true);
            CHECK.due("the other one isn't fetched", x.breaks(1, 0), false);
            CHECK.due("fetched, told", x.fetched(source, true), true);
            CHECK.due("told", x.breaks(0, 0), false);
            CHECK.due("fetched again, told", x.fetched(source, true), true);
            CHECK.due("told still", x.breaks(0, 0), false);
        }
    }

    private static void promise4NoneIfThereAre32() {
        CHECK.about("4, NONE if there are 32");
        ProvenanceRows x = new ProvenanceRows();
        for (int k = 0; k < 32; k++) {
            CHECK.due("artefact " + k, x.artefact(100 + k, 1, 1, 1, 1), k);
        }
        x.needs(0, 900);
        CHECK.due("one more", x.artefact(900, 2, 2, 2, 2), -1);
        CHECK.due("one more of a digest that is there", x.artefact(100, 2, 2, 2, 2), -1);
        CHECK.due("one more that isn't as told", x.artefact(901, 8, 8, 16, -1), -1);
        CHECK.due("the refused one meets nothing", x.missing(0, 0), 0);
        CHECK.due("no clash with a refused one", x.clash(0, 0), -1);
        CHECK.due("closure(31)", x.closure(31), 1);
        CHECK.due("closure(32)", x.closure(32), -1);
        CHECK.due("the first is as it was", x.differ(0, 1), 1 + 64);
        CHECK.due("the last is as it was", x.differ(30, 31), 1);
    }

    private static void promise4NoneIfBuilderIsNotAsTold() {
        CHECK.about("4, NONE if BUILDER isn't as told");
        ProvenanceRows x = new ProvenanceRows();
        for (int builder : Check.outside(-1, 7)) {
            CHECK.due("builder " + builder, x.artefact(1, builder, 0, 0, 0), -1);
        }
        CHECK.due("no number was taken", x.closure(0), -1);
        for (int builder = -1; builder <= 7; builder++) {
            CHECK.due("builder " + builder, x.artefact(1, builder, 0, 0, 0), builder + 1);
        }
    }

    private static void promise4NoneIfToolIsNotAsTold() {
        CHECK.about("4, NONE if TOOL isn't as told");
        ProvenanceRows x = new ProvenanceRows();
        for (int tool : Check.outside(0, 7)) {
            CHECK.due("tool " + tool, x.artefact(1, 0, tool, 0, 0), -1);
        }
        CHECK.due("no number was taken", x.closure(0), -1);
        for (int tool = 0; tool <= 7; tool++) {
            CHECK.due("tool " + tool, x.artefact(1, 0, tool, 0, 0), tool);
        }
    }

    private static void promise4NoneIfAuthorIsNotAsTold() {
        CHECK.about("4, NONE if AUTHOR isn't as told");
        ProvenanceRows x = new ProvenanceRows();
        for (int author : Check.outside(0, 15)) {
            CHECK.due("author " + author, x.artefact(1, 0, 0, author, 0), -1);
        }
        CHECK.due("no number was taken", x.closure(0), -1);
        for (int author = 0; author <= 15; author++) {
            CHECK.due("author " + author, x.artefact(1, 0, 0, author, 0), author);
        }
    }

    private static void promise4NoneIfTimeIsNotAsTold() {
        CHECK.about("4, NONE if TIME isn't as told");
        ProvenanceRows x = new ProvenanceRows();
        for (int time : Check.outside(0, 1000000000)) {
            CHECK.due("time " + time, x.artefact(1, 0, 0, 0, time), -1);
        }
        CHECK.due("no number was taken", x.closure(0), -1);
        CHECK.due("the least time", x.artefact(1, 0, 0, 0, 0), 0);
        CHECK.due("one above it", x.artefact(1, 0, 0, 0, 1), 1);
        CHECK.due("one below the greatest", x.artefact(1, 0, 0, 0, 999999999), 2);
        CHECK.due("the greatest time", x.artefact(1, 0, 0, 0, 1000000000), 3);
    }

    private static void promise4RefusedOnesMeetNoNeed() {
        CHECK.about("4, what isn't as told is no new ARTEFACT");
        ProvenanceRows x = Check.withArtefacts(1);
        x.needs(0, 5);
        x.artefact(5, 8, 0, 0, 0);
        x.artefact(5, 0, 8, 0, 0);
        x.artefact(5, 0, 0, 16, 0);
        x.artefact(5, 0, 0, 0, -1);
        CHECK.due("the need is missing", x.missing(0, 0), 0);
        CHECK.due("the closure is itself", x.closure(0), 1);
        CHECK.due("then one that is as told", x.artefact(5, 0, 0, 0, 0), 1);
        CHECK.due("the need is met", x.missing(0, 0), -1);
        CHECK.due("no clash with refused ones", x.clash(0, 0), -1);
    }

    private static void promise4BuilderNoneIsUnknown() {
        CHECK.about("4, BUILDER NONE: unknown");
        ProvenanceRows x = new ProvenanceRows();
        CHECK.due("unknown", x.artefact(1, ProvenanceRows.NONE, 0, 0, 0), 0);
        CHECK.due("0", x.artefact(1, 0, 0, 0, 0), 1);
        CHECK.due("7", x.artefact(1, 7, 0, 0, 0), 2);
        CHECK.due("unknown isn't 0", x.differ(0, 1), 2);
        CHECK.due("unknown isn't 7", x.differ(0, 2), 2);
        x.policy(0, -1);
        CHECK.due("unknown breaks kind 0", x.breaks(0, 0), true);
        CHECK.due("0 doesn't", x.breaks(1, 0), false);
        CHECK.due("7 doesn't", x.breaks(2, 0), false);
    }

    private static void promise5FalseIfThereIsNoSuchArtefact() {
        CHECK.about("5, false if there is no such ARTEFACT");
        for (int count : new int[] {1, 31, 32}) {
            ProvenanceRows x = Check.with(count, 1);
            for (int artefact : Check.outside(0, count - 1)) {
                CHECK.due(count + ": uses(" + artefact + ", 0)", x.uses(artefact, 0), false);
                CHECK.due("neither", x.uses(artefact, artefact), false);
            }
            CHECK.due("none came anywhere", x.holds(1, 0), -1);
            CHECK.due(count + ": the last", x.uses(count - 1, 0), true);
            CHECK.due("to the last alone", x.holds(1, 0), count - 1);
        }
    }

    private static void promise5FalseIfThereIsNoSuchSource() {
        CHECK.about("5, false if there is no such SOURCE");
        for (int count : new int[] {1, 23, 24}) {
            ProvenanceRows x = Check.with(1, count);
            for (int source : Check.outside(0, count - 1)) {
                CHECK.due(count + ": uses(0, " + source + ")", x.uses(0, source), false);
            }
            x.policy(8, 0);
            CHECK.due("none came", x.breaks(0, 0), true);
            CHECK.due(count + ": the last", x.uses(0, count - 1), true);
            CHECK.due("it came", x.holds(count, 0), 0);
        }
    }

    private static void promise5FalseIfItIsThere() {
        CHECK.about("5, false if it is there");
        ProvenanceRows x = Check.with(2, 3);
        x.source(1, 0, 0);
        CHECK.due("uses(0, 0)", x.uses(0, 0), true);
        CHECK.due("uses(0, 0) again", x.uses(0, 0), false);
        CHECK.due("uses(0, 2)", x.uses(0, 2), true);
        CHECK.due("uses(0, 0), no more the last", x.uses(0, 0), false);
        CHECK.due("uses(0, 2) again", x.uses(0, 2), false);
        CHECK.due("another source of the same digest", x.uses(0, 3), true);
        CHECK.due("the same source for another artefact", x.uses(1, 0), true);
        x.uses(1, 2);
        x.uses(1, 3);
        CHECK.due("what was refused left no mark", x.differ(0, 1), 1);
        ProvenanceRows row = Check.with(0, 6);
        row.artefact(1, 0, 0, 0, 0);
        row.artefact(1, 0, 0, 0, 0);
        for (int k = 0; k < 6; k++) {
            row.uses(0, k);
            row.uses(1, k);
            for (int there = 0; there <= k; there++) {
                CHECK.due(there + " is there", row.uses(0, there), false);
                CHECK.due("the row is as it was", row.clash(0, 0), -1);
            }
        }
    }

    private static void promise5FalseIfThereAreSix() {
        CHECK.about("5, false if there are 6");
        ProvenanceRows x = Check.with(32, 24);
        for (int artefact : new int[] {0, 15, 31}) {
            for (int k = 0; k < 6; k++) {
                CHECK.due("source " + k, x.uses(artefact, 3 * k), true);
            }
            CHECK.due("a seventh", x.uses(artefact, 23), false);
            CHECK.due("another seventh", x.uses(artefact, 1), false);
            CHECK.due("one that is there", x.uses(artefact, 0), false);
        }
        CHECK.due("no seventh came anywhere", x.holds(24, 0), -1);
        CHECK.due("nor the other", x.holds(2, 0), -1);
        CHECK.due("the sixth is there", x.holds(16, 2), 31);
        CHECK.due("a neighbour has room", x.uses(1, 23), true);
        CHECK.due("the other neighbour, too", x.uses(30, 23), true);
    }

    private static void promise5ComesAtTheEnd() {
        CHECK.about("5, a SOURCE comes at the end");
        ProvenanceRows x = Check.with(0, 6);
        x.artefact(1, 0, 0, 0, 0);
        x.artefact(1, 0, 0, 0, 0);
        for (int k = 0; k < 6; k++) {
            x.uses(0, k);
            CHECK.due("one more than the other", x.clash(0, 1), 1);
            x.uses(1, k);
            CHECK.due("the same row", x.clash(0, 1), -1);
        }
    }

    private static void promise6FalseIfThereIsNoSuchArtefact() {
        CHECK.about("6, false if there is none such");
        for (int count : new int[] {1, 31, 32}) {
            ProvenanceRows x = Check.withArtefacts(count);
            for (int artefact : Check.outside(0, count - 1)) {
                CHECK.due(count + ": needs(" + artefact + ", 5)", x.needs(artefact, 5), false);
            }
            for (int artefact = 0; artefact < count; artefact++) {
                CHECK.due("none came to " + artefact, x.missing(artefact, 0), -1);
            }
            CHECK.due(count + ": the last", x.needs(count - 1, 5), true);
            CHECK.due("it came", x.missing(count - 1, 0), 0);
        }
    }

    private static void promise6FalseIfItIsThere() {
        CHECK.about("6, false if it is there");
        for (long digest : Check.DIGESTS) {
            ProvenanceRows x = Check.withArtefacts(2);
            CHECK.due("needs(0, " + digest + ")", x.needs(0, digest), true);
            CHECK.due("again", x.needs(0, digest), false);
            CHECK.due("another", x.needs(0, digest ^ 1L << 40), true);
            CHECK.due("again, no more the last", x.needs(0, digest), false);
            CHECK.due("for another artefact", x.needs(1, digest), true);
            CHECK.due("two came", x.missing(0, 1), 1);
            CHECK.due("no third", x.missing(0, 2), -1);
        }
        ProvenanceRows row = new ProvenanceRows();
        row.artefact(1, 0, 0, 0, 0);
        row.artefact(1, 0, 0, 0, 0);
        for (int k = 0; k < 6; k++) {
            row.needs(0, Check.DIGESTS[k]);
            row.needs(1, Check.DIGESTS[k]);
            for (int there = 0; there <= k; there++) {
                CHECK.due("need " + there, row.needs(0, Check.DIGESTS[there]), false);
                CHECK.due("the row is as it was", row.clash(0, 0), -1);
            }
        }
    }

    private static void promise6FalseIfThereAreSix() {
        CHECK.about("6, false if there are 6");
        ProvenanceRows x = Check.withArtefacts(32);
        for (int artefact : new int[] {0, 15, 31}) {
            for (int k = 0; k < 6; k++) {
                CHECK.due("need " + k, x.needs(artefact, Check.DIGESTS[k]), true);
            }
            CHECK.due("a seventh", x.needs(artefact, 7), false);
            CHECK.due("a seventh that is met", x.needs(artefact, 1001), false);
            CHECK.due("one that is there", x.needs(artefact, 0), false);
            CHECK.due("the sixth is there", x.missing(artefact, 5), 5);
            CHECK.due("no seventh", x.missing(artefact, 6), -1);
            CHECK.due("nor one that is met", x.closure(artefact), 1);
        }
        CHECK.due("nothing came to a neighbour", x.missing(1, 0), -1);
        CHECK.due("nor to the other", x.missing(30, 0), -1);
        CHECK.due("a neighbour has room", x.needs(1, 7), true);
        CHECK.due("the other neighbour, too", x.needs(30, 7), true);
    }

    private static void promise6ComesAtTheEnd() {
        CHECK.about("6, a NEED comes at the end");
        ProvenanceRows x = Check.withArtefacts(7);
        for (int k = 6; k >= 1; k--) {
            x.needs(0, 1000 + k);
            CHECK.due("one more", x.closure(0), 8 - k);
            CHECK.due("at the end", x.at(7 - k), k);
            CHECK.due("behind the first", x.at(1), 6);
        }
    }

    private static void promise7FalseIfThereIsNoSuchArtefact() {
        CHECK.about("7, false if there is no such ARTEFACT");
        for (int count : new int[] {2, 31, 32}) {
            ProvenanceRows x = Check.withArtefacts(count);
            for (int artefact : Check.outside(0, count - 1)) {
                CHECK.due(count + ": path(" + artefact + ", 0)", x.path(artefact, 0, 1), false);
                CHECK.due(count + ": path(" + artefact + ", 7)", x.path(artefact, 7, 1), false);
                CHECK.due("neither", x.path(artefact, -1, 1), false);
            }
            for (int artefact = 1; artefact < count; artefact++) {
                CHECK.due("none has one", x.rebuilt(0, artefact), 0);
            }
            CHECK.due(count + ": the last", x.path(count - 1, 7, 1), true);
            CHECK.due("it has one", x.rebuilt(0, count - 1), 128);
        }
    }

    private static void promise7FalseIfThereIsNoSuchPath() {
        CHECK.about("7, false if there is no such PATH");
        ProvenanceRows x = Check.withArtefacts(32);
        for (int path : Check.outside(0, 7)) {
            for (int artefact : new int[] {0, 1, 31}) {
                CHECK.due("path(" + artefact + ", " + path + ")", x.path(artefact, path, 1), false);
            }
        }
        for (int artefact = 1; artefact < 32; artefact++) {
            CHECK.due("none has one", x.rebuilt(0, artefact), 0);
        }
    }

    private static void promise7FirstAndLastPath() {
        CHECK.about("7, a PATH has a DIGEST");
        ProvenanceRows x = Check.withArtefacts(4);
        CHECK.due("the last path", x.path(1, 7, 5), true);
        CHECK.due("it is the artefact's own", x.rebuilt(1, 3), 128);
        CHECK.due("not the next one's", x.rebuilt(2, 3), 0);
        CHECK.due("the first path", x.path(2, 0, 5), true);
        CHECK.due("it is the artefact's own, too", x.rebuilt(2, 3), 1);
        CHECK.due("not the one's before", x.rebuilt(1, 3), 128);
        CHECK.due("told again", x.path(2, 0, 6), true);
        x.path(3, 0, 6);
        CHECK.due("the latest is the path's", x.rebuilt(2, 3), 0);
    }

    private static void promise8NoneIfThereAre16() {
        CHECK.about("8, NONE if there are 16");
        ProvenanceRows x = Check.withArtefacts(1);
        for (int place = 0; place < 16; place++) {
            CHECK.due("rule " + place, x.policy(9, 1), place);
        }
        CHECK.due("one more", x.policy(8, 0), -1);
        CHECK.due("another one more", x.policy(9, 0), -1);
        CHECK.due("one more of no kind", x.policy(10, 0), -1);
        for (int rule = 0; rule <= 16; rule++) {
            CHECK.due("rule " + rule + " is as it was", x.breaks(0, rule), false);
        }
        CHECK.due("verdict(0)", x.verdict(0), -1);
    }

    private static void promise8NoneIfNoSuchKind() {
        CHECK.about("8, NONE if no such KIND");
        ProvenanceRows x = Check.withArtefacts(1);
        for (int kind : Check.outside(0, 9)) {
            CHECK.due("kind " + kind, x.policy(kind, 0), -1);
            CHECK.due("kind " + kind + " with any value", x.policy(kind, kind), -1);
        }
        CHECK.due("no rule came", x.breaks(0, 0), false);
        CHECK.due("verdict(0)", x.verdict(0), -1);
        for (int kind = 0; kind <= 9; kind++) {
            CHECK.due("kind " + kind, x.policy(kind, 0), kind);
        }
    }

    private static void promise8AnyValue() {
        CHECK.about("8, a RULE of any value");
        for (int v : new int[] {LEAST, LEAST + 1, -1, 0, 1, GREATEST - 1, GREATEST}) {
            ProvenanceRows x = Check.withArtefacts(1);
            for (int kind = 0; kind <= 9; kind++) {
                CHECK.due("kind " + kind + " with " + v, x.policy(kind, v), kind);
            }
            CHECK.due("the value is kept whole", x.breaks(0, 9), 1 > v);
        }
    }
}
