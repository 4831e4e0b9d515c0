/** Promises 12 to 15: closure, at, holds and missing. */
public final class ClosureTest {
    private static final Check CHECK = new Check();

    public static void main(String[] args) {
        closureAsksForAnArtefact();
        closureGoesInRounds();
        closureTakesEachOnce();
        closureTakesAllThirtyTwo();
        firstOfADigestMeets();
        laterOnesMeetToo();
        atAsksForAPlace();
        atTellsTheClosureAsItWas();
        atStaysAfterOtherCalls();
        holdsGoesByNumbers();
        holdsLooksAtDigestsOfSources();
        holdsAsksForAPlace();
        holdsLooksAtAllThirtyTwo();
        missingTellsPlaces();
        missingOfFullRows();
        missingAsksForBoth();
        CHECK.end();
    }

    private static void dueRow(String what, ProvenanceRows x, int artefact, int... want) {
        CHECK.due(what + ": closure(" + artefact + ")", x.closure(artefact), want.length);
        for (int i = 0; i < want.length; i++) {
            CHECK.due(what + ": at(" + i + ")", x.at(i), want[i]);
        }
        CHECK.due(what + ": at(" + want.length + ")", x.at(want.length), -1);
    }

    private static void closureAsksForAnArtefact() {
        ProvenanceRows x = Check.withArtefacts(2);
        for (int wrong : Check.WRONG_NUMBERS) {
            CHECK.due("closure(" + wrong + ")", x.closure(wrong), -1);
        }
        CHECK.due("closure(2)", x.closure(2), -1);
        dueRow("alone", x, 1, 1);
    }

    /** 0 needs 3 and 1, 3 needs 5, 1 needs 4, 4 needs 2: a walk in depth would tell 3 5 1 4 2. */
    private static void closureGoesInRounds() {
        ProvenanceRows x = Check.withArtefacts(6);
        x.needs(0, 1003);
        x.needs(0, 77);
        x.needs(0, 1001);
        x.needs(3, 1005);
        x.needs(1, 1004);
        x.needs(4, 1002);
        dueRow("rounds", x, 0, 0, 3, 1, 5, 4, 2);
    }

    private static void closureTakesEachOnce() {
        ProvenanceRows x = Check.withArtefacts(4);
        x.needs(0, 1000);
        x.needs(0, 1001);
        x.needs(0, 1002);
        x.needs(1, 1003);
        x.needs(2, 1003);
        x.needs(3, 1000);
        dueRow("a ring with two ways", x, 0, 0, 1, 2, 3);
        dueRow("the ring from within", x, 3, 3, 0, 1, 2);
    }

    private static void closureTakesAllThirtyTwo() {
        ProvenanceRows x = Check.withArtefacts(32);
        for (int k = 0; k < 32; k++) {
            x.needs(k, 1000 + (k + 31) % 32);
            x.needs(k, 1000 + (k + 1) % 32);
        }
        CHECK.due("closure(31)", x.closure(31), 32);
        CHECK.due("at(0)", x.at(0), 31);
        CHECK.due("at(1)", x.at(1), 30);
        CHECK.due("at(2)", x.at(2), 0);
        CHECK.due("at(3)", x.at(3), 29);
        CHECK.due("at(31)", x.at(31), 15);
        CHECK.due("at(32)", x.at(32), -1);
    }

    private static void firstOfADigestMeets() {
        ProvenanceRows x = new ProvenanceRows();
        x.artefact(1, 0, 0, 0, 0);
        x.artefact(5, 0, 0, 0, 0);
        x.artefact(5, 0, 0, 0, 0);
        x.needs(0, 5);
        dueRow("the first meets", x, 0, 0, 1);
        x.needs(2, 5);
        dueRow("an earlier one than itself", x, 2, 2, 1);
    }

    private static void laterOnesMeetToo() {
        ProvenanceRows x = new ProvenanceRows();
        x.artefact(1, 0, 0, 0, 0);
        x.needs(0, 5);
        x.needs(0, 6);
        dueRow("none meets", x, 0, 0);
        x.artefact(6, 0, 0, 0, 0);
        x.artefact(6, 0, 0, 0, 0);
        x.artefact(5, 0, 0, 0, 0);
        x.artefact(5, 0, 0, 0, 0);
        dueRow("in the order of the needs", x, 0, 0, 3, 1);
    }

    private static void atAsksForAPlace() {
        ProvenanceRows x = Check.withArtefacts(1);
        CHECK.due("at(0) before any closure", x.at(0), -1);
        x.closure(0);
        for (int wrong : Check.WRONG_NUMBERS) {
            CHECK.due("at(" + wrong + ")", x.at(wrong), -1);
        }
        CHECK.due("at(1)", x.at(1), -1);
        CHECK.due("at(0)", x.at(0), 0);
    }

    private static void atTellsTheClosureAsItWas() {
        ProvenanceRows x = Check.withArtefacts(3);
        x.needs(2, 1001);
        dueRow("before", x, 2, 2, 1);
        x.needs(2, 1000);
        CHECK.due("at(1) as it was", x.at(1), 1);
        CHECK.due("at(2) as it was", x.at(2), -1);
        CHECK.due("closure of none", x.closure(9), -1);
        CHECK.due("at(0) after a closure of none", x.at(0), 2);
        CHECK.due("at(1) after a closure of none", x.at(1), 1);
        dueRow("after", x, 2, 2, 1, 0);
        dueRow("a shorter one", x, 0, 0);
    }

    /** verdict, breaks and holds go along closures too, but they are no call of closure. */
    private static void atStaysAfterOtherCalls() {
        ProvenanceRows x = Check.with(3, 1);
        x.needs(2, 1001);
        x.needs(1, 1000);
        x.needs(0, 1002);
        x.uses(1, 0);
        x.policy(9, 9);
        x.closure(2);
        x.verdict(0);
        CHECK.due("at(0) after verdict", x.at(0), 2);
        x.breaks(1, 0);
        CHECK.due("at(0) after breaks", x.at(0), 2);
        x.holds(1, 2);
        CHECK.due("at(0) after holds", x.at(0), 2);
        CHECK.due("at(1)", x.at(1), 1);
        CHECK.due("at(2)", x.at(2), 0);
    }

    private static void holdsGoesByNumbers() {
        ProvenanceRows x = Check.with(6, 2);
        x.needs(1, 1004);
        x.needs(4, 1003);
        x.uses(3, 1);
        x.uses(0, 0);
        CHECK.due("holds(2, 0)", x.holds(2, 0), 1);
        CHECK.due("holds(2, 1)", x.holds(2, 1), 3);
        CHECK.due("holds(2, 2)", x.holds(2, 2), 4);
        CHECK.due("holds(2, 3)", x.holds(2, 3), -1);
        CHECK.due("holds(1, 0)", x.holds(1, 0), 0);
        CHECK.due("holds(1, 1)", x.holds(1, 1), -1);
        CHECK.due("an artefact's digest is no source's", x.holds(1003, 0), -1);
    }

    private static void holdsLooksAtDigestsOfSources() {
        ProvenanceRows x = Check.withArtefacts(2);
        x.source(1L << 40, 0, 0);
        x.source(1L << 40, 1, 0);
        x.source(0, 0, 0);
        x.uses(0, 2);
        x.uses(0, 0);
        x.uses(1, 1);
        CHECK.due("two sources of one digest, first", x.holds(1L << 40, 0), 0);
        CHECK.due("two sources of one digest, second", x.holds(1L << 40, 1), 1);
        CHECK.due("digest 0, first", x.holds(0, 0), 0);
        CHECK.due("digest 0, second", x.holds(0, 1), -1);
    }

    private static void holdsAsksForAPlace() {
        ProvenanceRows x = Check.with(1, 1);
        x.uses(0, 0);
        for (int wrong : Check.WRONG_NUMBERS) {
            CHECK.due("holds(1, " + wrong + ")", x.holds(1, wrong), -1);
        }
        CHECK.due("holds(1, 0)", x.holds(1, 0), 0);
        CHECK.due("holds(1, 1)", x.holds(1, 1), -1);
        CHECK.due("holds(2, 0)", x.holds(2, 0), -1);
    }

    private static void holdsLooksAtAllThirtyTwo() {
        ProvenanceRows x = Check.with(32, 24);
        x.uses(31, 23);
        CHECK.due("holds(24, 0)", x.holds(24, 0), 31);
        CHECK.due("holds(24, 1)", x.holds(24, 1), -1);
        for (int k = 0; k < 31; k++) {
            x.needs(k, 1031);
        }
        CHECK.due("holds(24, 30)", x.holds(24, 30), 30);
        CHECK.due("holds(24, 31)", x.holds(24, 31), 31);
        CHECK.due("holds(24, 32)", x.holds(24, 32), -1);
    }

    private static void missingTellsPlaces() {
        ProvenanceRows x = Check.withArtefacts(2);
        x.needs(1, 1000);
        x.needs(1, 50);
        x.needs(1, 1001);
        x.needs(1, 60);
        x.needs(1, 70);
        CHECK.due("missing(1, 0)", x.missing(1, 0), 1);
        CHECK.due("missing(1, 1)", x.missing(1, 1), 3);
        CHECK.due("missing(1, 2)", x.missing(1, 2), 4);
        CHECK.due("missing(1, 3)", x.missing(1, 3), -1);
        x.artefact(60, 0, 0, 0, 0);
        CHECK.due("missing(1, 1) with one fewer", x.missing(1, 1), 4);
        CHECK.due("missing(1, 2) with one fewer", x.missing(1, 2), -1);
        CHECK.due("missing of one without needs", x.missing(0, 0), -1);
    }

    private static void missingOfFullRows() {
        ProvenanceRows x = Check.withArtefacts(32);
        for (int k = 0; k < 6; k++) {
            x.needs(30, 1000 + k);
            x.needs(31, 50 + k);
        }
        CHECK.due("all six are met, though the next one's aren't", x.missing(30, 0), -1);
        CHECK.due("missing(31, 5)", x.missing(31, 5), 5);
        CHECK.due("missing(31, 6)", x.missing(31, 6), -1);
    }

    private static void missingAsksForBoth() {
        ProvenanceRows x = Check.withArtefacts(1);
        x.needs(0, 5);
        for (int wrong : Check.WRONG_NUMBERS) {
            CHECK.due("missing(" + wrong + ", 0)", x.missing(wrong, 0), -1);
            CHECK.due("missing(0, " + wrong + ")", x.missing(0, wrong), -1);
        }
        CHECK.due("missing(1, 0)", x.missing(1, 0), -1);
        CHECK.due("missing(0, 0)", x.missing(0, 0), 0);
    }
}
