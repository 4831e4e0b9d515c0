/** Promises 9 to 11 and the kinds of rules at their edges, a test for each sentence. */
public final class PolicyEdgesTest {
    private static final Check CHECK = new Check();
    private static final int LEAST = Integer.MIN_VALUE;
    private static final int GREATEST = Integer.MAX_VALUE;

    public static void main(String[] args) {
        kind0BuilderIsNoneOfTheBits();
        kind0UnknownOnesNeverAre();
        kind1ToolIsNoneOfTheBits();
        kind2BranchIsNoneOfTheBits();
        kind3FewerReviewsThanTheValue();
        kind3ByOthersThanTheAuthor();
        kind4FetchedWithoutADigestTold();
        kind5ANeedIsMissing();
        kind6AboveTheValue();
        kind6OnlyNeedsThatAreMet();
        kind7AnotherArtefactOfItsDigest();
        kind8NoSourcesAndNoNeeds();
        kind9MoreThanTheValue();
        valuesOfOtherKindsDoNotCount();
        promise9NoRuleIsBroken();
        promise9NoSuchArtefact();
        promise9FirstAndLastRule();
        promise9FirstAndLastArtefactOfTheClosure();
        promise9ArtefactsComeBeforeRules();
        promise9RulesThatCountClosures();
        promise10NoneIfThereWasNone();
        promise10TheLatestThatWasZeroOrMore();
        promise10FirstAndLastArtefact();
        promise11FalseIfThereIsNoSuchArtefact();
        promise11FalseIfThereIsNoSuchRule();
        promise11ByItself();
        CHECK.end();
    }

    /** Whether artefact 0 breaks a new rule; a rule that was refused would prove nothing. */
    private static void dueRule(ProvenanceRows x, int kind, int v, boolean want) {
        int rule = x.policy(kind, v);
        CHECK.due("kind " + kind + " with " + v + " is taken", rule >= 0, true);
        CHECK.due("kind " + kind + " with " + v, x.breaks(0, rule), want);
    }

    private static ProvenanceRows built(int builder, int tool, int author, int time) {
        ProvenanceRows x = new ProvenanceRows();
        x.artefact(1000, builder, tool, author, time);
        return x;
    }

    private static void kind0BuilderIsNoneOfTheBits() {
        CHECK.about("kind 0, its BUILDER isn't one of v's bits");
        for (int builder = 0; builder <= 7; builder++) {
            ProvenanceRows x = built(builder, 7 - builder, 0, 0);
            dueRule(x, 0, 1 << builder, false);
            dueRule(x, 0, ~(1 << builder), true);
            dueRule(x, 0, 0, true);
            dueRule(x, 0, 255, false);
            dueRule(x, 0, ~255, true);
            dueRule(x, 0, -1, false);
            dueRule(x, 0, LEAST, true);
            dueRule(x, 0, GREATEST, false);
            dueRule(x, 0, 1 << builder + 8, true);
        }
    }

    private static void kind0UnknownOnesNeverAre() {
        CHECK.about("kind 0, unknown ones never are");
        ProvenanceRows x = built(-1, 0, 0, 0);
        for (int v : new int[] {-1, 255, ~255, 0, 1, 128, 256, LEAST, GREATEST}) {
            dueRule(x, 0, v, true);
        }
    }

    private static void kind1ToolIsNoneOfTheBits() {
        CHECK.about("kind 1, its TOOL isn't one of v's bits");
        for (int tool = 0; tool <= 7; tool++) {
            ProvenanceRows x = built(7 - tool, tool, 0, 0);
            dueRule(x, 1, 1 << tool, false);
            dueRule(x, 1, ~(1 << tool), true);
            dueRule(x, 1, 0, true);
            dueRule(x, 1, 255, false);
            dueRule(x, 1, ~255, true);
            dueRule(x, 1, -1, false);
            dueRule(x, 1, LEAST, true);
            dueRule(x, 1, GREATEST, false);
            dueRule(x, 1, 1 << tool + 8, true);
        }
    }

    private static void kind2BranchIsNoneOfTheBits() {
        CHECK.about("kind 2, a SOURCE of it has a BRANCH that isn't one of v's bits");
        for (int branch = 0; branch <= 7; branch++) {
            ProvenanceRows x = built(7 - branch, 7 - branch, 0, 0);
            x.source(1, branch, 0);
            x.source(2, 7 - branch, 0);
            dueRule(x, 2, 0, false);
            dueRule(x, 2, LEAST, false);
            x.uses(0, 0);
            dueRule(x, 2, 1 << branch, false);
            dueRule(x, 2, ~(1 << branch), true);
            dueRule(x, 2, ~255, true);
            dueRule(x, 2, 1 << branch + 8, true);
            dueRule(x, 2, -1, false);
            x.uses(0, 1);
            dueRule(x, 2, 1 << branch, true);
            dueRule(x, 2, 1 << branch | 1 << 7 - branch, false);
        }
        ProvenanceRows six = built(0, 0, 0, 0);
        for (int k = 0; k < 6; k++) {
            six.source(k, k == 5 ? 1 : 0, 0);
            dueRule(six, 2, 1, false);
            six.uses(0, k);
        }
        dueRule(six, 2, 1, true);
    }

    private static void kind3FewerReviewsThanTheValue() {
        CHECK.about("kind 3, a SOURCE of it has fewer than v REVIEWS");
        ProvenanceRows none = Check.with(1, 1);
        dueRule(none, 3, GREATEST, false);
        none.uses(0, 0);
        dueRule(none, 3, LEAST, false);
        dueRule(none, 3, -1, false);
        dueRule(none, 3, 0, false);
        dueRule(none, 3, 1, true);
        dueRule(none, 3, GREATEST, true);
        for (int count = 0; count <= 15; count++) {
            ProvenanceRows x = built(0, 0, 15, 0);
            x.source(1, 0, (1 << count) - 1);
            x.uses(0, 0);
            dueRule(x, 3, count - 1, false);
            dueRule(x, 3, count, false);
            dueRule(x, 3, count + 1, true);
        }
        ProvenanceRows six = built(0, 0, 0, 0);
        for (int k = 0; k < 6; k++) {
            six.source(1, 0, k == 5 ? 2 : 6);
            dueRule(six, 3, 2, false);
            six.uses(0, k);
        }
        dueRule(six, 3, 2, true);
    }

    private static void kind3ByOthersThanTheAuthor() {
        CHECK.about("kind 3, by others than the AUTHOR");
        for (int author = 0; author <= 15; author++) {
            ProvenanceRows x = built(0, 0, author, 0);
            x.source(1, 0, 1 << author);
            x.source(2, 0, 0xFFFF);
            x.source(3, 0, 0xFFFF ^ 1 << author);
            x.uses(0, 2);
            dueRule(x, 3, 15, false);
            dueRule(x, 3, 16, true);
            x.uses(0, 1);
            dueRule(x, 3, 15, false);
            x.uses(0, 0);
            dueRule(x, 3, 0, false);
            dueRule(x, 3, 1, true);
        }
    }

    private static void kind4FetchedWithoutADigestTold() {
        CHECK.about("kind 4, a SOURCE of it is FETCHED without a DIGEST told before");
        ProvenanceRows x = Check.with(2, 7);
        for (int k = 0; k < 6; k++) {
            x.uses(0, k);
        }
        x.uses(1, 6);
        dueRule(x, 4, 0, false);
        x.fetched(6, false);
        dueRule(x, 4, 0, false);
        x.fetched(0, true);
        dueRule(x, 4, 0, false);
        x.fetched(5, false);
        dueRule(x, 4, 0, true);
        x.fetched(5, true);
        dueRule(x, 4, 0, false);
        x.fetched(0, false);
        dueRule(x, 4, 0, true);
        CHECK.due("one that uses the seventh", x.breaks(1, 0), true);
        ProvenanceRows nothing = Check.with(1, 1);
        nothing.fetched(0, false);
        dueRule(nothing, 4, 0, false);
    }

    private static void kind5ANeedIsMissing() {
        CHECK.about("kind 5, a NEED of it is MISSING");
        ProvenanceRows x = Check.withArtefacts(6);
        dueRule(x, 5, 0, false);
        for (int k = 1; k <= 5; k++) {
            x.needs(0, 1000 + k);
        }
        dueRule(x, 5, 0, false);
        x.needs(0, 5);
        dueRule(x, 5, 0, true);
        CHECK.due("one without needs", x.breaks(1, 0), false);
        x.artefact(5, 0, 0, 0, 0);
        dueRule(x, 5, 0, false);
        ProvenanceRows own = Check.withArtefacts(1);
        own.needs(0, 1000);
        dueRule(own, 5, 0, false);
    }

    /** An artefact of one time that needs one of another; the difference is then known. */
    private static void dueDifference(int own, int other, int difference) {
        ProvenanceRows x = built(0, 0, 0, own);
        x.artefact(1, 0, 0, 0, other);
        x.needs(0, 1);
        dueRule(x, 6, difference - 1, true);
        dueRule(x, 6, difference, false);
        dueRule(x, 6, difference + 1, false);
        dueRule(x, 6, LEAST, true);
        dueRule(x, 6, GREATEST, false);
    }

    private static void kind6AboveTheValue() {
        CHECK.about("kind 6, the TIME of what meets a NEED, less its own, is above v");
        dueDifference(0, 0, 0);
        dueDifference(7, 7, 0);
        dueDifference(0, 1, 1);
        dueDifference(1, 0, -1);
        dueDifference(0, 1000000000, 1000000000);
        dueDifference(1000000000, 0, -1000000000);
        dueDifference(1000000000, 1000000000, 0);
        dueDifference(1, 1000000000, 999999999);
        dueDifference(0, 999999999, 999999999);
        dueDifference(999999999, 1000000000, 1);
        ProvenanceRows six = Check.withArtefacts(7);
        six.artefact(1, 0, 0, 0, 1);
        for (int k = 1; k <= 5; k++) {
            six.needs(0, 1000 + k);
        }
        dueRule(six, 6, 0, false);
        six.needs(0, 1);
        dueRule(six, 6, 0, true);
    }

    private static void kind6OnlyNeedsThatAreMet() {
        CHECK.about("kind 6, an ARTEFACT that meets a NEED of it");
        ProvenanceRows x = built(0, 0, 0, 10);
        dueRule(x, 6, LEAST, false);
        x.needs(0, 1);
        dueRule(x, 6, LEAST, false);
        dueRule(x, 6, -1000000001, false);
        x.artefact(2, 0, 0, 0, 1000000000);
        dueRule(x, 6, LEAST, false);
        x.artefact(1, 0, 0, 0, 11);
        dueRule(x, 6, 0, true);
        dueRule(x, 6, 1, false);
        x.artefact(1, 0, 0, 0, 99);
        dueRule(x, 6, 1, false);
        ProvenanceRows own = built(0, 0, 0, 10);
        own.needs(0, 1000);
        dueRule(own, 6, 0, false);
        dueRule(own, 6, -1, true);
    }

    private static void kind7AnotherArtefactOfItsDigest() {
        CHECK.about("kind 7, another ARTEFACT of its DIGEST doesn't AGREE with it");
        ProvenanceRows x = built(0, 0, 0, 0);
        dueRule(x, 7, 0, false);
        x.artefact(1001, 1, 1, 1, 1);
        dueRule(x, 7, 0, false);
        x.artefact(1000 + (1L << 32), 1, 1, 1, 1);
        dueRule(x, 7, 0, false);
        x.artefact(1000, 0, 0, 15, 1000000000);
        dueRule(x, 7, 0, false);
        x.artefact(1000, 1, 0, 0, 0);
        dueRule(x, 7, 0, true);
        CHECK.due("of another digest", x.breaks(1, 0), false);
        CHECK.due("one that agrees with the first", x.breaks(3, 0), true);
        CHECK.due("the one that doesn't agree", x.breaks(4, 0), true);
        for (long digest : Check.DIGESTS) {
            ProvenanceRows alone = new ProvenanceRows();
            alone.artefact(digest, 7, 7, 15, 1);
            dueRule(alone, 7, 0, false);
        }
        ProvenanceRows full = new ProvenanceRows();
        full.policy(7, 0);
        for (int k = 0; k < 32; k++) {
            full.artefact(5, k == 31 ? -1 : 0, 0, 0, 0);
            CHECK.due("after artefact " + k, full.breaks(0, 0), k == 31);
        }
        ProvenanceRows agreeing = Check.withArtefacts(31);
        agreeing.artefact(1000, 0, 0, 0, 0);
        agreeing.policy(7, 0);
        for (int k = 0; k < 32; k++) {
            CHECK.due("none of 32 but agrees: " + k, agreeing.breaks(k, 0), false);
        }
    }

    private static void kind8NoSourcesAndNoNeeds() {
        CHECK.about("kind 8, it has no SOURCES and no NEEDS");
        ProvenanceRows x = Check.with(4, 1);
        dueRule(x, 8, 0, true);
        x.uses(1, 0);
        x.needs(2, 5);
        x.uses(3, 0);
        x.needs(3, 1000);
        CHECK.due("neither", x.breaks(0, 0), true);
        CHECK.due("a source alone", x.breaks(1, 0), false);
        CHECK.due("a need alone, though missing", x.breaks(2, 0), false);
        CHECK.due("both", x.breaks(3, 0), false);
        x.path(0, 0, 1);
        CHECK.due("a path is neither", x.breaks(0, 0), true);
        x.uses(0, 1);
        CHECK.due("nor is a refused source", x.breaks(0, 0), true);
    }

    private static void kind9MoreThanTheValue() {
        CHECK.about("kind 9, its CLOSURE has more than v ARTEFACTS");
        ProvenanceRows x = Check.withArtefacts(32);
        dueRule(x, 9, 0, true);
        dueRule(x, 9, 1, false);
        dueRule(x, 9, -1, true);
        dueRule(x, 9, LEAST, true);
        dueRule(x, 9, GREATEST, false);
        for (int k = 0; k < 32; k++) {
            x.needs(k, 1000 + (k + 1) % 32);
        }
        dueRule(x, 9, 31, true);
        dueRule(x, 9, 32, false);
        dueRule(x, 9, 33, false);
        x.needs(31, 7);
        dueRule(x, 9, 32, false);
        CHECK.due("the value GREATEST still", x.breaks(0, 4), false);
    }

    private static void valuesOfOtherKindsDoNotCount() {
        CHECK.about("kinds 4, 5, 7 and 8 don't speak of v");
        for (int v : new int[] {LEAST, -1, 0, 1, GREATEST}) {
            ProvenanceRows x = Check.with(2, 1);
            dueRule(x, 4, v, false);
            dueRule(x, 5, v, false);
            dueRule(x, 7, v, false);
            dueRule(x, 8, v, true);
            x.uses(0, 0);
            x.fetched(0, false);
            x.needs(0, 5);
            x.artefact(1000, 1, 1, 1, 1);
            dueRule(x, 4, v, true);
            dueRule(x, 5, v, true);
            dueRule(x, 7, v, true);
            dueRule(x, 8, v, false);
        }
    }

    private static void promise9NoRuleIsBroken() {
        CHECK.about("9, - 1 if none is");
        ProvenanceRows x = Check.withArtefacts(2);
        x.needs(0, 1001);
        CHECK.due("without rules", x.verdict(0), -1);
        for (int rule = 0; rule < 16; rule++) {
            x.policy(9, 2);
            CHECK.due("with " + rule, x.verdict(0), -1);
        }
        CHECK.due("of the other", x.verdict(1), -1);
    }

    private static void promise9NoSuchArtefact() {
        CHECK.about("9, - 2 if there is no such ARTEFACT");
        for (int count : new int[] {0, 1, 31, 32}) {
            ProvenanceRows x = Check.withArtefacts(count);
            for (int none : Check.outside(0, count - 1)) {
                CHECK.due("without rules: verdict(" + none + ")", x.verdict(none), -2);
            }
            x.policy(8, 0);
            for (int none : Check.outside(0, count - 1)) {
                CHECK.due(count + ": verdict(" + none + ")", x.verdict(none), -2);
            }
            CHECK.due("the last", x.verdict(count - 1), count == 0 ? -2 : 0);
        }
    }

    private static void promise9FirstAndLastRule() {
        CHECK.about("9, the place of the RULE that is BROKEN first");
        for (int broken = 0; broken < 16; broken++) {
            ProvenanceRows x = Check.withArtefacts(1);
            for (int rule = 0; rule < 16; rule++) {
                x.policy(rule >= broken ? 8 : 5, 0);
            }
            CHECK.due("rules from " + broken + " on are broken", x.verdict(0), broken);
        }
    }

    private static void promise9FirstAndLastArtefactOfTheClosure() {
        CHECK.about("9, the CLOSURE's ARTEFACTS in their order");
        for (int culprit : new int[] {0, 1, 30, 31}) {
            ProvenanceRows x = new ProvenanceRows();
            for (int k = 0; k < 32; k++) {
                x.artefact(k, k == culprit ? 1 : 0, 0, 0, 0);
                x.needs(k, (k + 1) % 32);
            }
            x.policy(0, 1);
            for (int first : new int[] {0, 1, 15, 31}) {
                CHECK.due("verdict(" + first + ")", x.verdict(first), 0);
                CHECK.due("culprit()", x.culprit(), culprit);
            }
        }
    }

    private static void promise9ArtefactsComeBeforeRules() {
        CHECK.about("9, RULES in their order for each ARTEFACT");
        ProvenanceRows x = Check.withArtefacts(2);
        x.needs(0, 1001);
        x.policy(8, 0);
        x.policy(9, 1);
        CHECK.due("rule 1 of itself before rule 0 of the next", x.verdict(0), 1);
        CHECK.due("culprit()", x.culprit(), 0);
        CHECK.due("rule 0 of the next", x.verdict(1), 0);
        CHECK.due("culprit()", x.culprit(), 1);
    }

    private static void promise9RulesThatCountClosures() {
        CHECK.about("9, RULES of kind 9 while the CLOSURE is gone along");
        ProvenanceRows x = Check.withArtefacts(32);
        for (int k = 0; k < 31; k++) {
            x.needs(k, 1001 + k);
        }
        x.policy(9, 32);
        x.policy(8, 0);
        CHECK.due("the last one alone breaks a rule", x.verdict(0), 1);
        CHECK.due("culprit()", x.culprit(), 31);
        x.needs(31, 1000);
        CHECK.due("none breaks one", x.verdict(0), -1);
        x.policy(9, 31);
        CHECK.due("the ring is longer", x.verdict(20), 2);
        CHECK.due("culprit()", x.culprit(), 20);
    }

    private static void promise10NoneIfThereWasNone() {
        CHECK.about("10, NONE if there was none");
        ProvenanceRows x = Check.withArtefacts(2);
        CHECK.due("before any verdict", x.culprit(), -1);
        x.verdict(0);
        CHECK.due("after a verdict without rules", x.culprit(), -1);
        x.policy(8, 0);
        x.verdict(2);
        x.verdict(-1);
        CHECK.due("after verdicts of - 2", x.culprit(), -1);
        x.breaks(1, 0);
        CHECK.due("after breaks", x.culprit(), -1);
        x.needs(0, 1000);
        x.verdict(0);
        CHECK.due("after a verdict of - 1", x.culprit(), -1);
    }

    private static void promise10TheLatestThatWasZeroOrMore() {
        CHECK.about("10, the latest verdict that was 0 or more");
        ProvenanceRows x = Check.withArtefacts(3);
        x.needs(2, 1002);
        x.policy(8, 0);
        x.verdict(0);
        CHECK.due("the first", x.culprit(), 0);
        x.verdict(1);
        CHECK.due("the latest", x.culprit(), 1);
        CHECK.due("verdict(2)", x.verdict(2), -1);
        CHECK.due("stays after - 1", x.culprit(), 1);
        x.verdict(3);
        CHECK.due("stays after - 2", x.culprit(), 1);
        x.breaks(0, 0);
        CHECK.due("stays after breaks", x.culprit(), 1);
        x.needs(1, 1000);
        CHECK.due("stays though it breaks no rule any more", x.culprit(), 1);
    }

    private static void promise10FirstAndLastArtefact() {
        CHECK.about("10, the ARTEFACT that broke the RULE");
        ProvenanceRows x = Check.withArtefacts(32);
        for (int k = 0; k < 15; k++) {
            x.policy(5, 0);
        }
        x.policy(8, 0);
        CHECK.due("verdict(31)", x.verdict(31), 15);
        CHECK.due("the last one", x.culprit(), 31);
        CHECK.due("verdict(0)", x.verdict(0), 15);
        CHECK.due("the first one", x.culprit(), 0);
    }

    private static void promise11FalseIfThereIsNoSuchArtefact() {
        CHECK.about("11, false if there is no such ARTEFACT");
        for (int count : new int[] {1, 31, 32}) {
            ProvenanceRows x = Check.withArtefacts(count);
            x.policy(8, 0);
            x.policy(0, 0);
            x.policy(9, LEAST);
            for (int none : Check.outside(0, count - 1)) {
                for (int rule = 0; rule < 3; rule++) {
                    CHECK.due("breaks(" + none + ", " + rule + ")", x.breaks(none, rule), false);
                }
                CHECK.due("neither", x.breaks(none, none), false);
            }
            CHECK.due("the first", x.breaks(0, 0), true);
            CHECK.due("the last", x.breaks(count - 1, 0), true);
        }
    }

    private static void promise11FalseIfThereIsNoSuchRule() {
        CHECK.about("11, false if there is no such RULE");
        for (int count : new int[] {1, 15, 16}) {
            ProvenanceRows x = Check.withArtefacts(1);
            for (int rule = 0; rule < count; rule++) {
                x.policy(8, 0);
            }
            for (int none : Check.outside(0, count - 1)) {
                CHECK.due(count + ": breaks(0, " + none + ")", x.breaks(0, none), false);
            }
            CHECK.due("the first", x.breaks(0, 0), true);
            CHECK.due("the last", x.breaks(0, count - 1), true);
        }
    }

    private static void promise11ByItself() {
        CHECK.about("11, by itself");
        ProvenanceRows x = Check.withArtefacts(2);
        x.needs(0, 1001);
        x.policy(5, 0);
        x.policy(8, 0);
        CHECK.due("verdict(0)", x.verdict(0), 1);
        CHECK.due("itself doesn't break it", x.breaks(0, 1), false);
        CHECK.due("what it rests on does", x.breaks(1, 1), true);
    }
}
