/** Promises 12 to 15 at their edges: each sentence that names an edge has a test of its own. */
public final class ClosureEdgesTest {
    private static final Check CHECK = new Check();

    public static void main(String[] args) {
        promise12NoneIfThereIsNoneSuch();
        promise12ItselfAlone();
        promise12AllThirtyTwo();
        promise13NoneBeforeAnyClosure();
        promise13NoneIfThereIsNoneSuch();
        promise13TheLatestThatWasNotNone();
        promise13AsItWasThen();
        promise13OnlyClosureIsAClosure();
        promise14NoneIfThereIsNoSuchDigest();
        promise14NoneIfThereIsNoSuchPlace();
        promise14FirstAndLastArtefact();
        promise14FirstAndLastSource();
        promise14EachOnceByNumbers();
        promise15NoneIfThereIsNoSuchArtefact();
        promise15NoneIfThereIsNoSuchPlace();
        promise15FirstAndLastNeed();
        promise15MetLaterOn();
        CHECK.end();
    }

    private static void promise12NoneIfThereIsNoneSuch() {
        CHECK.about("12, NONE if there is none such");
        for (int count : new int[] {0, 1, 31, 32}) {
            ProvenanceRows x = Check.withArtefacts(count);
            for (int none : Check.outside(0, count - 1)) {
                CHECK.due(count + ": closure(" + none + ")", x.closure(none), -1);
            }
            CHECK.due("the last", x.closure(count - 1), count == 0 ? -1 : 1);
        }
    }

    private static void promise12ItselfAlone() {
        CHECK.about("12, the CLOSURE: itself, where no NEED is met");
        ProvenanceRows x = Check.withArtefacts(32);
        CHECK.dueClosure(x, 0, 0);
        CHECK.dueClosure(x, 31, 31);
        x.needs(31, 5);
        CHECK.dueClosure(x, 31, 31);
        x.needs(31, 1031);
        CHECK.dueClosure(x, 31, 31);
    }

    private static void promise12AllThirtyTwo() {
        CHECK.about("12, the CLOSURE: how many");
        ProvenanceRows x = Check.withArtefacts(32);
        for (int k = 0; k < 31; k++) {
            x.needs(k, 1001 + k);
        }
        for (int k = 0; k < 32; k++) {
            CHECK.due("closure(" + k + ") of a chain", x.closure(k), 32 - k);
            CHECK.due("its first", x.at(0), k);
            CHECK.due("its last", x.at(31 - k), 31);
            CHECK.due("one more", x.at(32 - k), -1);
        }
    }

    private static void promise13NoneBeforeAnyClosure() {
        CHECK.about("13, NONE, none having been asked for yet");
        ProvenanceRows x = Check.withArtefacts(1);
        CHECK.due("closure(1)", x.closure(1), -1);
        for (int i : Check.outside(0, -1)) {
            CHECK.due("at(" + i + ")", x.at(i), -1);
        }
    }

    private static void promise13NoneIfThereIsNoneSuch() {
        CHECK.about("13, NONE if there is none such");
        ProvenanceRows x = Check.withArtefacts(32);
        for (int count : new int[] {1, 2, 31, 32}) {
            for (int k = 0; k < count - 1; k++) {
                x.needs(k, 1001 + k);
            }
            CHECK.due("closure(0)", x.closure(0), count);
            for (int i : Check.outside(0, count - 1)) {
                CHECK.due(count + ": at(" + i + ")", x.at(i), -1);
            }
            CHECK.due("the first", x.at(0), 0);
            CHECK.due("the last", x.at(count - 1), count - 1);
        }
    }

    private static void promise13TheLatestThatWasNotNone() {
        CHECK.about("13, the latest closure that wasn't NONE");
        ProvenanceRows x = Check.withArtefacts(3);
        x.needs(0, 1001);
        x.closure(0);
        for (int none : Check.outside(0, 2)) {
            CHECK.due("closure(" + none + ")", x.closure(none), -1);
            CHECK.due("at(0)", x.at(0), 0);
            CHECK.due("at(1)", x.at(1), 1);
            CHECK.due("at(2)", x.at(2), -1);
        }
        x.closure(2);
        CHECK.due("the latest, at(0)", x.at(0), 2);
        CHECK.due("the latest is shorter, at(1)", x.at(1), -1);
    }

    private static void promise13AsItWasThen() {
        CHECK.about("13, as it was then");
        ProvenanceRows x = Check.withArtefacts(2);
        x.needs(0, 5);
        x.closure(0);
        x.needs(0, 1001);
        CHECK.due("a need came", x.at(1), -1);
        x.artefact(5, 0, 0, 0, 0);
        CHECK.due("a need was met", x.at(1), -1);
        CHECK.due("itself", x.at(0), 0);
        CHECK.dueClosure(x, 0, 0, 2, 1);
    }

    private static void promise13OnlyClosureIsAClosure() {
        CHECK.about("13, the latest closure, not what other calls go along");
        ProvenanceRows x = Check.with(3, 1);
        x.needs(0, 1001);
        x.needs(1, 1002);
        x.uses(2, 0);
        x.policy(9, 0);
        x.closure(1);
        x.verdict(0);
        x.breaks(0, 0);
        x.holds(1, 2);
        x.missing(0, 0);
        x.clash(0, 0);
        CHECK.due("at(0)", x.at(0), 1);
        CHECK.due("at(1)", x.at(1), 2);
        CHECK.due("at(2)", x.at(2), -1);
    }

    private static void promise14NoneIfThereIsNoSuchDigest() {
        CHECK.about("14, NONE if there is none such (no SOURCE of it)");
        for (long digest : Check.DIGESTS) {
            ProvenanceRows x = Check.withArtefacts(2);
            x.source(digest, 0, 0);
            x.needs(1, 1000);
            CHECK.due("not used by any", x.holds(digest, 0), -1);
            x.uses(0, 0);
            for (long other : Check.DIGESTS) {
                int due = other == digest ? 0 : -1;
                CHECK.due("holds(" + other + ", 0)", x.holds(other, 0), due);
            }
            CHECK.due("holds(" + digest + ", 1)", x.holds(digest, 1), 1);
            CHECK.due("an artefact's digest", x.holds(1000, 0), -1);
        }
    }

    private static void promise14NoneIfThereIsNoSuchPlace() {
        CHECK.about("14, NONE if there is none such (no i-th)");
        for (int count : new int[] {1, 2, 31, 32}) {
            ProvenanceRows x = Check.with(32, 1);
            for (int k = 0; k < count; k++) {
                x.uses(31 - k, 0);
            }
            for (int i : Check.outside(0, count - 1)) {
                CHECK.due(count + ": holds(1, " + i + ")", x.holds(1, i), -1);
            }
            CHECK.due("the first", x.holds(1, 0), 32 - count);
            CHECK.due("the last", x.holds(1, count - 1), 31);
        }
    }

    private static void promise14FirstAndLastArtefact() {
        CHECK.about("14, whose CLOSURE has one with a SOURCE of a DIGEST");
        ProvenanceRows x = Check.with(32, 1);
        x.uses(31, 0);
        for (int k = 0; k < 31; k++) {
            CHECK.due("itself alone", x.holds(1, 0), 31 - k);
            CHECK.due("with what rests on it", x.holds(1, k), 31);
            x.needs(30 - k, 1031 - k);
        }
        CHECK.due("the whole chain, the first", x.holds(1, 0), 0);
        CHECK.due("the whole chain, the last", x.holds(1, 31), 31);
        CHECK.due("the whole chain, one more", x.holds(1, 32), -1);
    }

    private static void promise14FirstAndLastSource() {
        CHECK.about("14, any of up to six SOURCES");
        ProvenanceRows x = Check.with(2, 24);
        int[] sources = {23, 0, 12, 1, 22, 11};
        for (int source : sources) {
            CHECK.due("not yet " + source, x.holds(source + 1, 0), -1);
            x.uses(1, source);
            CHECK.due("now " + source, x.holds(source + 1, 0), 1);
        }
        CHECK.due("not a seventh", x.holds(3, 0), -1);
    }

    private static void promise14EachOnceByNumbers() {
        CHECK.about("14, by numbers");
        ProvenanceRows x = Check.withArtefacts(3);
        x.source(9, 0, 0);
        x.source(9, 1, 0);
        x.uses(2, 0);
        x.uses(2, 1);
        x.uses(0, 1);
        x.needs(2, 1000);
        x.needs(0, 1002);
        CHECK.due("the first, in a ring, with two such sources", x.holds(9, 0), 0);
        CHECK.due("the next", x.holds(9, 1), 2);
        CHECK.due("each once", x.holds(9, 2), -1);
    }

    private static void promise15NoneIfThereIsNoSuchArtefact() {
        CHECK.about("15, NONE if there is none such (no ARTEFACT)");
        for (int count : new int[] {0, 1, 31, 32}) {
            ProvenanceRows x = Check.withArtefacts(count);
            for (int k = 0; k < count; k++) {
                x.needs(k, 5);
            }
            for (int none : Check.outside(0, count - 1)) {
                CHECK.due(count + ": missing(" + none + ", 0)", x.missing(none, 0), -1);
                CHECK.due("neither", x.missing(none, none), -1);
            }
            CHECK.due("the last", x.missing(count - 1, 0), count == 0 ? -1 : 0);
        }
    }

    private static void promise15NoneIfThereIsNoSuchPlace() {
        CHECK.about("15, NONE if there is none such (no i-th)");
        ProvenanceRows x = Check.withArtefacts(32);
        for (int artefact : new int[] {0, 30, 31}) {
            CHECK.due("no needs", x.missing(artefact, 0), -1);
            for (int count = 1; count <= 6; count++) {
                x.needs(artefact, count);
                for (int i : Check.outside(0, count - 1)) {
                    CHECK.due(count + ": missing(.., " + i + ")", x.missing(artefact, i), -1);
                }
                CHECK.due("the last of " + count, x.missing(artefact, count - 1), count - 1);
            }
        }
    }

    private static void promise15FirstAndLastNeed() {
        CHECK.about("15, in their order: its place among NEEDS");
        for (int place = 0; place < 6; place++) {
            ProvenanceRows x = Check.withArtefacts(6);
            for (int k = 0; k < 6; k++) {
                x.needs(5, k == place ? 7 : 1000 + k);
            }
            CHECK.due("missing at " + place, x.missing(5, 0), place);
            CHECK.due("nowhere else", x.missing(5, 1), -1);
        }
        ProvenanceRows gaps = Check.withArtefacts(3);
        for (int k = 0; k < 3; k++) {
            gaps.needs(0, 1000 + k);
            gaps.needs(0, 50 - k);
        }
        CHECK.due("the first missing", gaps.missing(0, 0), 1);
        CHECK.due("the next missing", gaps.missing(0, 1), 3);
        CHECK.due("the last missing", gaps.missing(0, 2), 5);
        CHECK.due("one more", gaps.missing(0, 3), -1);
    }

    private static void promise15MetLaterOn() {
        CHECK.about("15, a NEED that is met later on is MISSING no more");
        ProvenanceRows x = Check.withArtefacts(26);
        for (int k = 0; k < 6; k++) {
            x.needs(0, 1026 + k);
        }
        for (int k = 0; k < 6; k++) {
            CHECK.due("the first missing", x.missing(0, 0), k);
            CHECK.due("the last missing", x.missing(0, 5 - k), 5);
            CHECK.due("one more", x.missing(0, 6 - k), -1);
            CHECK.due("artefact", x.artefact(1026 + k, 0, 0, 0, 0), 26 + k);
        }
        CHECK.due("none is missing", x.missing(0, 0), -1);
    }
}
