/** Promises 16 to 18: rebuilt, differ and clash. */
public final class CompareTest {
    private static final Check CHECK = new Check();

    public static void main(String[] args) {
        rebuiltTellsEachPath();
        rebuiltKnowsNoDigestFromZero();
        rebuiltAsksForBoth();
        differTellsEachBit();
        differTakesRowsAsSets();
        differAsksForBoth();
        clashGoesByLesserThenGreater();
        clashComparesRowsInOrder();
        clashOfFullRows();
        clashLooksAtAllThirtyTwo();
        clashAsksForAPlaceAndASide();
        CHECK.end();
    }

    private static void rebuiltTellsEachPath() {
        for (int path = 0; path < 8; path++) {
            ProvenanceRows x = Check.withArtefacts(3);
            for (int other = 0; other < 8; other++) {
                x.path(0, other, other);
                x.path(1, other, other == path ? 1L << 32 | other : other);
            }
            CHECK.due("another digest at " + path, x.rebuilt(0, 1), 1 << path);
            CHECK.due("the other way round", x.rebuilt(1, 0), 1 << path);
            CHECK.due("none on one side", x.rebuilt(0, 2), 255);
            CHECK.due("none on the other side", x.rebuilt(2, 1), 255);
            CHECK.due("with itself", x.rebuilt(1, 1), 0);
        }
    }

    private static void rebuiltKnowsNoDigestFromZero() {
        ProvenanceRows x = Check.withArtefacts(2);
        x.path(0, 6, 0);
        CHECK.due("0 and none", x.rebuilt(0, 1), 64);
        x.path(1, 6, 0);
        CHECK.due("0 and 0", x.rebuilt(0, 1), 0);
        CHECK.due("none and none, of two digests", x.rebuilt(1, 0), 0);
    }

    private static void rebuiltAsksForBoth() {
        ProvenanceRows x = Check.withArtefacts(1);
        for (int wrong : Check.WRONG_NUMBERS) {
            CHECK.due("rebuilt(" + wrong + ", 0)", x.rebuilt(wrong, 0), -1);
            CHECK.due("rebuilt(0, " + wrong + ")", x.rebuilt(0, wrong), -1);
        }
        CHECK.due("rebuilt(0, 1)", x.rebuilt(0, 1), -1);
        CHECK.due("rebuilt(1, 0)", x.rebuilt(1, 0), -1);
    }

    private static void differTellsEachBit() {
        ProvenanceRows x = new ProvenanceRows();
        x.source(1, 0, 0);
        x.artefact(1, 1, 1, 1, 1);
        x.artefact(1 + (1L << 32), 1, 1, 1, 1);
        x.artefact(1, -1, 1, 1, 1);
        x.artefact(1, 1, 2, 1, 1);
        x.artefact(1, 1, 1, 2, 1);
        x.artefact(1, 1, 1, 1, 2);
        x.artefact(1, 1, 1, 1, 1);
        x.artefact(1, 1, 1, 1, 1);
        x.artefact(1, 1, 1, 1, 1);
        x.uses(6, 0);
        x.needs(7, 0);
        x.path(8, 0, 1);
        for (int k = 1; k <= 7; k++) {
            CHECK.due("differ(0, " + k + ")", x.differ(0, k), 1 << k - 1);
            CHECK.due("differ(" + k + ", 0)", x.differ(k, 0), 1 << k - 1);
            CHECK.due("differ(" + k + ", itself)", x.differ(k, k), 0);
        }
        CHECK.due("paths don't count", x.differ(0, 8), 0);
    }

    private static void differTakesRowsAsSets() {
        ProvenanceRows x = Check.with(2, 3);
        x.source(1, 0, 0);
        x.uses(0, 0);
        x.uses(0, 1);
        x.uses(1, 1);
        x.uses(1, 2);
        CHECK.due("as many, but others", x.differ(0, 1), 1 + 32);
        x.uses(0, 2);
        x.uses(1, 0);
        CHECK.due("the same in another order", x.differ(0, 1), 1);
        x.needs(0, 5);
        x.needs(0, 6);
        x.needs(1, 6);
        x.needs(1, 5 + (1L << 32));
        CHECK.due("as many needs, but others", x.differ(0, 1), 1 + 64);
        x.needs(0, 5 + (1L << 32));
        x.needs(1, 5);
        CHECK.due("the same needs in another order", x.differ(0, 1), 1);
        ProvenanceRows y = Check.withArtefacts(2);
        y.source(1, 0, 0);
        y.source(1, 0, 0);
        y.uses(0, 0);
        y.uses(1, 1);
        CHECK.due("two sources of one digest are two", y.differ(0, 1), 1 + 32);
    }

    private static void differAsksForBoth() {
        ProvenanceRows x = Check.withArtefacts(1);
        for (int wrong : Check.WRONG_NUMBERS) {
            CHECK.due("differ(" + wrong + ", 0)", x.differ(wrong, 0), -1);
            CHECK.due("differ(0, " + wrong + ")", x.differ(0, wrong), -1);
        }
        CHECK.due("differ(0, 1)", x.differ(0, 1), -1);
        CHECK.due("differ(1, 0)", x.differ(1, 0), -1);
    }

    private static void duePair(ProvenanceRows x, int i, int lesser, int greater) {
        CHECK.due("clash(" + i + ", 0)", x.clash(i, 0), lesser);
        CHECK.due("clash(" + i + ", 1)", x.clash(i, 1), greater);
    }

    private static void clashGoesByLesserThenGreater() {
        ProvenanceRows x = new ProvenanceRows();
        x.artefact(1, 0, 0, 0, 0);
        x.artefact(2, 0, 0, 0, 0);
        x.artefact(2, 1, 0, 0, 0);
        x.artefact(1, 0, 0, 5, 5);
        x.artefact(1, 0, 1, 0, 0);
        x.artefact(3, 0, 2, 0, 0);
        x.artefact(1, -1, 0, 0, 0);
        duePair(x, 0, 0, 4);
        duePair(x, 1, 0, 6);
        duePair(x, 2, 1, 2);
        duePair(x, 3, 3, 4);
        duePair(x, 4, 3, 6);
        duePair(x, 5, 4, 6);
        duePair(x, 6, -1, -1);
    }

    private static void clashComparesRowsInOrder() {
        ProvenanceRows x = new ProvenanceRows();
        x.source(1, 0, 0);
        x.source(2, 0, 0);
        x.artefact(1, 0, 0, 0, 0);
        x.artefact(1, 0, 0, 1, 1);
        duePair(x, 0, -1, -1);
        x.uses(0, 0);
        duePair(x, 0, 0, 1);
        x.uses(1, 0);
        x.needs(0, 1);
        duePair(x, 0, 0, 1);
        x.needs(1, 1);
        x.path(1, 1, 1);
        duePair(x, 0, -1, -1);
        x.needs(0, 2);
        x.needs(0, 3);
        x.needs(1, 3);
        x.needs(1, 2);
        duePair(x, 0, 0, 1);
    }

    private static void clashOfFullRows() {
        ProvenanceRows x = Check.with(1, 7);
        x.artefact(1, 0, 0, 0, 0);
        x.artefact(2, 0, 0, 0, 0);
        x.artefact(1, 0, 0, 0, 0);
        x.artefact(3, 0, 0, 0, 0);
        for (int k = 0; k < 6; k++) {
            x.uses(1, k);
            x.uses(3, k);
            x.needs(1, 50 + k);
            x.needs(3, 50 + k);
        }
        x.uses(2, 5);
        x.uses(4, 6);
        x.needs(2, 90);
        x.needs(4, 91);
        duePair(x, 0, -1, -1);
        CHECK.due("differ(1, 3)", x.differ(1, 3), 0);
    }

    private static void clashLooksAtAllThirtyTwo() {
        ProvenanceRows zero = new ProvenanceRows();
        zero.artefact(0, 1, 1, 1, 1);
        duePair(zero, 0, -1, -1);
        ProvenanceRows x = new ProvenanceRows();
        for (int k = 0; k < 32; k++) {
            x.artefact(0, k % 8, k / 8, 0, 0);
        }
        duePair(x, 0, 0, 1);
        duePair(x, 30, 0, 31);
        duePair(x, 31, 1, 2);
        duePair(x, 495, 30, 31);
        duePair(x, 496, -1, -1);
    }

    private static void clashAsksForAPlaceAndASide() {
        ProvenanceRows x = new ProvenanceRows();
        x.artefact(1, 0, 0, 0, 0);
        x.artefact(1, 1, 0, 0, 0);
        for (int wrong : Check.WRONG_NUMBERS) {
            CHECK.due("clash(" + wrong + ", 0)", x.clash(wrong, 0), -1);
            CHECK.due("clash(" + wrong + ", 1)", x.clash(wrong, 1), -1);
            CHECK.due("clash(0, " + wrong + ")", x.clash(0, wrong), -1);
        }
        CHECK.due("clash(0, 2)", x.clash(0, 2), -1);
        CHECK.due("clash(1, 0)", x.clash(1, 0), -1);
        duePair(x, 0, 0, 1);
    }
}
