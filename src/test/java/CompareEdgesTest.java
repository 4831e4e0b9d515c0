/** Promises 16 to 18 at their edges: each sentence that names an edge has a test of its own. */
public final class CompareEdgesTest {
    private static final Check CHECK = new Check();

    public static void main(String[] args) {
        promise16NoneIfThereAreNoneSuch();
        promise16OneHasADigestAndTheOtherAnother();
        promise16OneHasADigestAndTheOtherNone();
        promise16NeitherHasADigest();
        promise16AllPathsOfTheLastOnes();
        promise17NoneIfThereAreNoneSuch();
        promise17NothingDiffers();
        promise17EachBitAlone();
        promise17LeastAndGreatest();
        promise17SourcesAsSets();
        promise17NeedsAsSets();
        promise17EmptyAndFullRows();
        promise18NoneIfThereIsNoneSuch();
        promise18NoneForAnotherSide();
        promise18OnlyOfOneDigest();
        promise18FirstAndLastPair();
        promise18ByTheLesserThenTheGreater();
        CHECK.end();
    }

    private static void promise16NoneIfThereAreNoneSuch() {
        CHECK.about("16, NONE if there are none such");
        for (int count : new int[] {0, 1, 31, 32}) {
            ProvenanceRows x = Check.withArtefacts(count);
            for (int none : Check.outside(0, count - 1)) {
                CHECK.due(count + ": rebuilt(" + none + ", 0)", x.rebuilt(none, 0), -1);
                CHECK.due(count + ": rebuilt(0, " + none + ")", x.rebuilt(0, none), -1);
                CHECK.due(count + ": rebuilt of none twice", x.rebuilt(none, none), -1);
            }
            CHECK.due("the first and the last", x.rebuilt(0, count - 1), count == 0 ? -1 : 0);
            CHECK.due("the last twice", x.rebuilt(count - 1, count - 1), count == 0 ? -1 : 0);
        }
    }

    private static void promise16OneHasADigestAndTheOtherAnother() {
        CHECK.about("16, one has a DIGEST there and the other another one");
        for (int path = 0; path <= 7; path++) {
            for (long digest : Check.DIGESTS) {
                ProvenanceRows x = Check.withArtefacts(2);
                x.path(0, path, digest);
                x.path(1, path, digest ^ Long.MIN_VALUE);
                CHECK.due("at " + path, x.rebuilt(0, 1), 1 << path);
                CHECK.due("at " + path + ", turned round", x.rebuilt(1, 0), 1 << path);
                x.path(1, path, digest);
                CHECK.due("the same at " + path, x.rebuilt(0, 1), 0);
            }
        }
    }

    private static void promise16OneHasADigestAndTheOtherNone() {
        CHECK.about("16, one has a DIGEST there and the other none");
        for (int path = 0; path <= 7; path++) {
            for (long digest : Check.DIGESTS) {
                ProvenanceRows x = Check.withArtefacts(2);
                x.path(1, path, digest);
                CHECK.due(digest + " at " + path, x.rebuilt(1, 0), 1 << path);
                CHECK.due(digest + " at " + path + ", turned round", x.rebuilt(0, 1), 1 << path);
            }
        }
    }

    private static void promise16NeitherHasADigest() {
        CHECK.about("16, neither has a DIGEST there");
        ProvenanceRows x = new ProvenanceRows();
        x.artefact(1, 0, 0, 0, 0);
        x.artefact(2, 7, 7, 15, 1000000000);
        CHECK.due("at none of the paths", x.rebuilt(0, 1), 0);
        CHECK.due("with itself", x.rebuilt(1, 1), 0);
        x.path(0, 3, 1);
        CHECK.due("with itself, with a path", x.rebuilt(0, 0), 0);
        CHECK.due("at the others", x.rebuilt(0, 1), 8);
    }

    private static void promise16AllPathsOfTheLastOnes() {
        CHECK.about("16, bits of the PATHS");
        ProvenanceRows x = Check.withArtefacts(32);
        for (int path = 0; path <= 7; path++) {
            x.path(31, path, path);
            CHECK.due("up to " + path, x.rebuilt(31, 30), (2 << path) - 1);
            CHECK.due("not the first one's", x.rebuilt(0, 30), 0);
        }
        for (int path = 0; path <= 7; path++) {
            x.path(30, path, path);
            CHECK.due("above " + path, x.rebuilt(31, 30), 255 ^ (2 << path) - 1);
        }
    }

    private static void promise17NoneIfThereAreNoneSuch() {
        CHECK.about("17, NONE if there are none such");
        for (int count : new int[] {0, 1, 31, 32}) {
            ProvenanceRows x = Check.withArtefacts(count);
            for (int none : Check.outside(0, count - 1)) {
                CHECK.due(count + ": differ(" + none + ", 0)", x.differ(none, 0), -1);
                CHECK.due(count + ": differ(0, " + none + ")", x.differ(0, none), -1);
                CHECK.due(count + ": differ of none twice", x.differ(none, none), -1);
            }
            int last = count - 1;
            int due = count == 0 ? -1 : count == 1 ? 0 : 1;
            CHECK.due("the first and the last", x.differ(0, last), due);
            CHECK.due("the last twice", x.differ(last, last), count == 0 ? -1 : 0);
        }
    }

    private static void promise17NothingDiffers() {
        CHECK.about("17, in what they differ: nothing");
        ProvenanceRows x = new ProvenanceRows();
        x.artefact(-1, -1, 0, 0, 0);
        x.artefact(-1, -1, 0, 0, 0);
        CHECK.due("two of one kind, unknown builders", x.differ(0, 1), 0);
        x.path(0, 0, 1);
        CHECK.due("paths aren't asked for", x.differ(0, 1), 0);
        x.artefact(2, 7, 7, 15, 1000000000);
        CHECK.due("all of the five", x.differ(0, 2), 31);
        CHECK.due("turned round", x.differ(2, 0), 31);
        CHECK.due("itself", x.differ(2, 2), 0);
    }

    private static void promise17EachBitAlone() {
        CHECK.about("17, bits 0 DIGEST .. 6 NEEDS");
        ProvenanceRows x = Check.with(0, 1);
        for (int bit = 0; bit <= 7; bit++) {
            x.artefact(bit == 0 ? 4 : 3, bit == 1 ? 4 : 3, bit == 2 ? 4 : 3, bit == 3 ? 4 : 3,
                    bit == 4 ? 4 : 3);
        }
        x.uses(5, 0);
        x.needs(6, 3);
        for (int bit = 0; bit <= 6; bit++) {
            CHECK.due("bit " + bit, x.differ(bit, 7), 1 << bit);
            CHECK.due("bit " + bit + ", turned round", x.differ(7, bit), 1 << bit);
        }
    }

    private static void promise17LeastAndGreatest() {
        CHECK.about("17, the least against the greatest");
        ProvenanceRows x = new ProvenanceRows();
        x.artefact(Long.MIN_VALUE, -1, 0, 0, 0);
        x.artefact(Long.MAX_VALUE, -1, 0, 0, 0);
        x.artefact(Long.MIN_VALUE, 7, 0, 0, 0);
        x.artefact(Long.MIN_VALUE, -1, 7, 0, 0);
        x.artefact(Long.MIN_VALUE, -1, 0, 15, 0);
        x.artefact(Long.MIN_VALUE, -1, 0, 0, 1000000000);
        for (int k = 1; k <= 5; k++) {
            CHECK.due("bit " + (k - 1), x.differ(0, k), 1 << k - 1);
            CHECK.due("bit " + (k - 1) + ", turned round", x.differ(k, 0), 1 << k - 1);
        }
        x.artefact(Long.MIN_VALUE + 1, 0, 1, 1, 1);
        CHECK.due("the least against the next", x.differ(0, 6), 31);
        x.artefact(Long.MAX_VALUE, 7, 7, 15, 1000000000);
        x.artefact(Long.MAX_VALUE - 1, 6, 6, 14, 999999999);
        CHECK.due("the greatest against the one before", x.differ(7, 8), 31);
    }

    private static void promise17SourcesAsSets() {
        CHECK.about("17, SOURCES as sets, by numbers");
        ProvenanceRows x = Check.with(2, 6);
        x.source(1, 0, 0);
        for (int k = 0; k < 6; k++) {
            x.uses(0, k);
            CHECK.due("not the same ones yet", x.differ(0, 1), 1 + 32);
            CHECK.due("turned round", x.differ(1, 0), 1 + 32);
            if (k < 5) {
                x.uses(1, 5 - k);
            }
        }
        x.uses(1, 0);
        CHECK.due("six in another order", x.differ(0, 1), 1);
        ProvenanceRows y = Check.with(2, 1);
        y.source(1, 0, 0);
        y.uses(0, 0);
        y.uses(1, 1);
        CHECK.due("two numbers of one digest", y.differ(0, 1), 1 + 32);
    }

    private static void promise17NeedsAsSets() {
        CHECK.about("17, NEEDS as sets, by DIGESTS");
        ProvenanceRows x = Check.withArtefacts(2);
        for (int k = 0; k < 6; k++) {
            x.needs(0, Check.DIGESTS[k]);
            CHECK.due("not the same ones yet", x.differ(0, 1), 1 + 64);
            CHECK.due("turned round", x.differ(1, 0), 1 + 64);
            if (k < 5) {
                x.needs(1, Check.DIGESTS[5 - k]);
            }
        }
        x.needs(1, Check.DIGESTS[0]);
        CHECK.due("six in another order", x.differ(0, 1), 1);
        ProvenanceRows y = Check.withArtefacts(2);
        y.needs(0, 1);
        y.needs(1, 2);
        CHECK.due("two digests that none meets", y.differ(0, 1), 1 + 64);
    }

    private static void promise17EmptyAndFullRows() {
        CHECK.about("17, empty rows, full rows, and one more than the other");
        ProvenanceRows x = Check.with(32, 6);
        CHECK.due("both empty", x.differ(30, 31), 1);
        for (int k = 0; k < 6; k++) {
            x.uses(30, k);
            x.needs(30, k);
            CHECK.due("one more", x.differ(30, 31), 1 + 32 + 64);
            CHECK.due("one fewer", x.differ(31, 30), 1 + 32 + 64);
            x.uses(31, k);
            x.needs(31, k);
            CHECK.due("as many", x.differ(30, 31), 1);
        }
        x.uses(29, 5);
        x.needs(29, 5);
        CHECK.due("what stands before them doesn't count", x.differ(30, 31), 1);
        CHECK.due("one against six", x.differ(29, 30), 1 + 32 + 64);
    }

    private static void duePair(ProvenanceRows x, int i, int lesser, int greater) {
        CHECK.due("clash(" + i + ", 0)", x.clash(i, 0), lesser);
        CHECK.due("clash(" + i + ", 1)", x.clash(i, 1), greater);
    }

    private static void promise18NoneIfThereIsNoneSuch() {
        CHECK.about("18, NONE if there is none such");
        ProvenanceRows x = new ProvenanceRows();
        for (int pairs = 0; pairs <= 3; pairs++) {
            for (int i : Check.outside(0, pairs - 1)) {
                duePair(x, i, -1, -1);
            }
            x.artefact(pairs, 0, 0, 0, 0);
            duePair(x, pairs, -1, -1);
            x.artefact(pairs, 1, 0, 0, 0);
            duePair(x, pairs, 2 * pairs, 2 * pairs + 1);
        }
    }

    private static void promise18NoneForAnotherSide() {
        CHECK.about("18, NONE for another side");
        ProvenanceRows x = new ProvenanceRows();
        x.artefact(1, 0, 0, 0, 0);
        x.artefact(1, 1, 0, 0, 0);
        for (int side : Check.outside(0, 1)) {
            CHECK.due("clash(0, " + side + ")", x.clash(0, side), -1);
            CHECK.due("clash(1, " + side + ")", x.clash(1, side), -1);
        }
        duePair(x, 0, 0, 1);
    }

    private static void promise18OnlyOfOneDigest() {
        CHECK.about("18, of one DIGEST");
        ProvenanceRows x = new ProvenanceRows();
        for (int k = 0; k < Check.DIGESTS.length; k++) {
            x.artefact(Check.DIGESTS[k], k % 9 - 1, k % 8, k, k);
        }
        duePair(x, 0, -1, -1);
        x.artefact(Check.DIGESTS[4], 7, 7, 0, 0);
        duePair(x, 0, 4, Check.DIGESTS.length);
        duePair(x, 1, -1, -1);
    }

    private static void promise18FirstAndLastPair() {
        CHECK.about("18, the i-th pair");
        ProvenanceRows x = new ProvenanceRows();
        for (int k = 0; k < 32; k++) {
            x.artefact(-1, k % 9 - 1, k / 9, 0, 0);
        }
        duePair(x, 0, 0, 1);
        duePair(x, 30, 0, 31);
        duePair(x, 31, 1, 2);
        duePair(x, 494, 29, 31);
        duePair(x, 495, 30, 31);
        duePair(x, 496, -1, -1);
        ProvenanceRows ends = Check.withArtefacts(31);
        ends.artefact(1000, 7, 0, 0, 0);
        duePair(ends, 0, 0, 31);
        duePair(ends, 1, -1, -1);
    }

    private static void promise18ByTheLesserThenTheGreater() {
        CHECK.about("18, by the lesser, then the greater number");
        ProvenanceRows x = new ProvenanceRows();
        x.artefact(1, 0, 0, 0, 0);
        x.artefact(2, 0, 0, 0, 0);
        x.artefact(2, 1, 0, 0, 0);
        x.artefact(1, 1, 0, 0, 0);
        x.artefact(2, 2, 0, 0, 0);
        x.artefact(1, 0, 0, 0, 0);
        duePair(x, 0, 0, 3);
        duePair(x, 1, 1, 2);
        duePair(x, 2, 1, 4);
        duePair(x, 3, 2, 4);
        duePair(x, 4, 3, 5);
        duePair(x, 5, -1, -1);
    }
}
