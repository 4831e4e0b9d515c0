/** The sentences of 'Terms' that name an edge, and the 512 calls: a test for each. */
public final class TermsEdgesTest {
    private static final Check CHECK = new Check();

    public static void main(String[] args) {
        noneIsMinusOne();
        sourcesAtMost24AreAllKept();
        digestsOfSourcesHave64Bits();
        branchesFrom0To7();
        reviewsArePersons0To15();
        artefactsAtMost32AreAllKept();
        digestsOfArtefactsHave64Bits();
        authorsFrom0To15();
        timesFrom0To1000000000();
        sourcesOfEachAtMostSix();
        needsOfEachAtMostSix();
        digestsOfNeedsHave64Bits();
        pathsOfEachFrom0To7();
        digestsOfPathsHave64Bits();
        needsAreMetByTheFirst();
        needsAreMetByOneThatComesLaterOn();
        whatMeetsNoneIsMissing();
        agreeIfBuilderIsTheSame();
        agreeIfToolIsTheSame();
        agreeIfSourcesAreTheSameInOrder();
        agreeIfNeedsAreTheSameInOrder();
        agreeWithFullRowsToTheLastArtefact();
        agreeWhateverElseDiffers();
        closureGoesInRounds();
        closureTakesEachOnce();
        closureGoesAlongRingsOnce();
        closureTakesOnlyTheFirstOfADigest();
        rulesAtMost16AreAllKept();
        theFullestObjectWithin512Calls();
        CHECK.end();
    }

    private static void noneIsMinusOne() {
        CHECK.about("NONE = -1");
        CHECK.due("NONE", ProvenanceRows.NONE, -1);
    }

    private static void sourcesAtMost24AreAllKept() {
        CHECK.about("SOURCES, at most 24, numbered from 0");
        ProvenanceRows x = Check.withArtefacts(24);
        for (int k = 0; k < 24; k++) {
            CHECK.due("source " + k, x.source(k, k % 8, 1 << k % 16), k);
        }
        for (int k = 0; k < 24; k++) {
            CHECK.due("uses(" + k + ", " + k + ")", x.uses(k, k), true);
        }
        for (int k = 0; k < 24; k++) {
            CHECK.due("holds(" + k + ", 0)", x.holds(k, 0), k);
            CHECK.due("holds(" + k + ", 1)", x.holds(k, 1), -1);
        }
        x.policy(2, 1 << 5);
        x.policy(3, 1);
        for (int k = 0; k < 24; k++) {
            CHECK.due("the branch of " + k, x.breaks(k, 0), k % 8 != 5);
            CHECK.due("the reviews of " + k, x.breaks(k, 1), k % 16 == 0);
        }
    }

    private static void digestsOfSourcesHave64Bits() {
        CHECK.about("SOURCES have a DIGEST (64 bits)");
        for (long digest : Check.DIGESTS) {
            ProvenanceRows x = Check.withArtefacts(1);
            x.source(digest, 0, 0);
            x.uses(0, 0);
            CHECK.due("all bits", x.holds(digest, 0), 0);
            for (int bit = 0; bit < 64; bit++) {
                CHECK.due("all but bit " + bit, x.holds(digest ^ 1L << bit, 0), -1);
            }
        }
    }

    private static void branchesFrom0To7() {
        CHECK.about("a BRANCH (0 .. 7)");
        for (int branch = 0; branch <= 7; branch++) {
            ProvenanceRows x = Check.withArtefacts(1);
            x.source(1, branch, 0);
            x.uses(0, 0);
            for (int bit = 0; bit <= 8; bit++) {
                x.policy(2, 1 << bit);
                CHECK.due(branch + " against bit " + bit, x.breaks(0, bit), bit != branch);
            }
        }
    }

    private static void reviewsArePersons0To15() {
        CHECK.about("REVIEWS: persons (bits 0 .. 15)");
        for (int person = 0; person <= 15; person++) {
            ProvenanceRows x = new ProvenanceRows();
            x.source(1, 0, 1 << person);
            x.policy(3, 1);
            for (int author = 0; author <= 15; author++) {
                x.artefact(author, 0, 0, author, 0);
                x.uses(author, 0);
                CHECK.due(person + " for " + author, x.breaks(author, 0), person == author);
            }
        }
    }

    private static void artefactsAtMost32AreAllKept() {
        CHECK.about("ARTEFACTS, at most 32, numbered from 0");
        ProvenanceRows x = new ProvenanceRows();
        for (int k = 0; k < 32; k++) {
            CHECK.due("artefact " + k, x.artefact(k, k % 8, k / 4, k % 16, k), k);
        }
        for (int k = 0; k < 32; k++) {
            x.needs(31 - k, k);
            CHECK.due("closure(" + (31 - k) + ")", x.closure(31 - k), 2);
            CHECK.due("at(1)", x.at(1), k);
        }
        CHECK.due("differ(3, 11)", x.differ(3, 11), 1 + 4 + 8 + 16 + 64);
        CHECK.due("differ(0, 16)", x.differ(0, 16), 1 + 4 + 16 + 64);
        CHECK.due("differ(0, 31)", x.differ(0, 31), 1 + 2 + 4 + 8 + 16 + 64);
        CHECK.due("differ(28, 31)", x.differ(28, 31), 1 + 2 + 8 + 16 + 64);
    }

    private static void digestsOfArtefactsHave64Bits() {
        CHECK.about("ARTEFACTS are a DIGEST");
        for (long digest : Check.DIGESTS) {
            for (int bit = 0; bit < 64; bit++) {
                ProvenanceRows x = new ProvenanceRows();
                x.artefact(digest, 0, 0, 0, 0);
                x.artefact(digest ^ 1L << bit, 1, 0, 0, 0);
                CHECK.due("differ but for bit " + bit, x.differ(0, 1), 1 + 2);
                CHECK.due("no clash but for bit " + bit, x.clash(0, 0), -1);
                x.needs(0, digest ^ 1L << bit);
                CHECK.due("bit " + bit + ", met by the second", x.closure(0), 2);
                x.needs(1, digest);
                CHECK.due("bit " + bit + ", met by the first", x.missing(1, 0), -1);
            }
        }
    }

    private static void authorsFrom0To15() {
        CHECK.about("an AUTHOR (a person, 0 .. 15)");
        ProvenanceRows x = new ProvenanceRows();
        for (int author = 0; author <= 15; author++) {
            CHECK.due("author " + author, x.artefact(1, 0, 0, author, 0), author);
        }
        for (int author = 0; author <= 15; author++) {
            int due = author == 15 ? 0 : 8;
            CHECK.due("differ(" + author + ", 15)", x.differ(author, 15), due);
            CHECK.due("it agrees nevertheless", x.clash(author, 0), -1);
        }
    }

    private static void timesFrom0To1000000000() {
        CHECK.about("a TIME (0 .. 1000000000)");
        ProvenanceRows x = new ProvenanceRows();
        x.artefact(1, 0, 0, 0, 0);
        x.artefact(2, 0, 0, 0, 1000000000);
        x.needs(0, 2);
        x.needs(1, 1);
        x.policy(6, 999999999);
        x.policy(6, 1000000000);
        x.policy(6, -1000000000);
        x.policy(6, -1000000001);
        CHECK.due("the greatest less the least is above 999999999", x.breaks(0, 0), true);
        CHECK.due("but not above 1000000000", x.breaks(0, 1), false);
        CHECK.due("the least less the greatest isn't above - 1000000000", x.breaks(1, 2), false);
        CHECK.due("but above - 1000000001", x.breaks(1, 3), true);
    }

    /** Every artefact uses six of the 24, the next one's beginning one further on. */
    private static void sourcesOfEachAtMostSix() {
        CHECK.about("with SOURCES (at most 6)");
        ProvenanceRows x = Check.with(32, 24);
        for (int artefact = 0; artefact < 32; artefact++) {
            for (int k = 0; k < 6; k++) {
                CHECK.due("uses", x.uses(artefact, (artefact + k) % 24), true);
            }
            CHECK.due("a seventh", x.uses(artefact, (artefact + 6) % 24), false);
        }
        for (int source = 0; source < 24; source++) {
            int i = 0;
            for (int artefact = 0; artefact < 32; artefact++) {
                if ((source - artefact + 48) % 24 < 6) {
                    if (i < 8) {
                        CHECK.due("source " + source, x.holds(source + 1, i), artefact);
                    }
                    i++;
                }
            }
        }
    }

    private static void needsOfEachAtMostSix() {
        CHECK.about("with NEEDS (DIGESTS, at most 6)");
        ProvenanceRows x = Check.withArtefacts(32);
        for (int artefact = 0; artefact < 32; artefact++) {
            for (int k = 0; k < 6; k++) {
                boolean met = (artefact + k) % 3 == 0;
                CHECK.due("needs", x.needs(artefact, met ? 1000 + k : k), true);
            }
            CHECK.due("a seventh", x.needs(artefact, 7), false);
        }
        for (int artefact = 0; artefact < 32; artefact++) {
            int first = artefact % 3 == 0 ? 1 : 0;
            int last = (artefact + 5) % 3 == 0 ? 4 : 5;
            CHECK.due("first missing of " + artefact, x.missing(artefact, 0), first);
            CHECK.due("last missing of " + artefact, x.missing(artefact, 3), last);
            CHECK.due("one more of " + artefact, x.missing(artefact, 4), -1);
        }
    }

    private static void digestsOfNeedsHave64Bits() {
        CHECK.about("NEEDS are DIGESTS");
        for (long digest : Check.DIGESTS) {
            for (int bit = 0; bit < 64; bit++) {
                ProvenanceRows x = new ProvenanceRows();
                x.artefact(digest, 0, 0, 0, 0);
                x.artefact(digest, 0, 0, 0, 0);
                CHECK.due("all bits", x.needs(0, digest), true);
                CHECK.due("all but bit " + bit, x.needs(0, digest ^ 1L << bit), true);
                CHECK.due("the first is met", x.missing(0, 0), 1);
                x.needs(1, digest);
                x.needs(1, digest ^ 1L << (bit + 1) % 64);
                CHECK.due("two rows that differ in bits", x.differ(0, 1), 64);
                CHECK.due("two rows that don't agree", x.clash(0, 1), 1);
            }
        }
    }

    private static void pathsOfEachFrom0To7() {
        CHECK.about("PATHS (0 .. 7, perhaps with a DIGEST each)");
        ProvenanceRows x = Check.withArtefacts(32);
        for (int artefact = 0; artefact < 32; artefact++) {
            for (int path = 0; path <= 7; path++) {
                CHECK.due("path", x.path(artefact, path, artefact >> path & 1), true);
            }
        }
        for (int artefact = 0; artefact < 32; artefact++) {
            CHECK.due("0 and " + artefact, x.rebuilt(0, artefact), artefact);
            CHECK.due(artefact + " and 31", x.rebuilt(artefact, 31), artefact ^ 31);
        }
    }

    private static void digestsOfPathsHave64Bits() {
        CHECK.about("PATHS with a DIGEST");
        for (long digest : Check.DIGESTS) {
            ProvenanceRows x = Check.withArtefacts(2);
            x.path(0, 7, digest);
            for (int bit = 0; bit < 64; bit++) {
                x.path(1, 7, digest ^ 1L << bit);
                CHECK.due("all but bit " + bit, x.rebuilt(0, 1), 128);
            }
            x.path(1, 7, digest);
            CHECK.due("all bits", x.rebuilt(0, 1), 0);
        }
    }

    private static void needsAreMetByTheFirst() {
        CHECK.about("NEEDS are met by the ARTEFACT of that DIGEST that came first");
        for (long digest : Check.DIGESTS) {
            ProvenanceRows x = new ProvenanceRows();
            for (int k = 0; k < 32; k++) {
                x.artefact(k == 0 ? 7 : digest, 0, 0, 0, k);
            }
            x.needs(0, digest);
            x.needs(31, digest);
            CHECK.dueClosure(x, 0, 0, 1);
            CHECK.dueClosure(x, 31, 31, 1);
            x.needs(1, digest);
            CHECK.due("it meets its own need", x.missing(1, 0), -1);
            CHECK.dueClosure(x, 1, 1);
        }
    }

    private static void needsAreMetByOneThatComesLaterOn() {
        CHECK.about("NEEDS are met also by one that comes later on");
        for (long digest : Check.DIGESTS) {
            ProvenanceRows x = new ProvenanceRows();
            x.artefact(7, 0, 0, 0, 0);
            x.needs(0, digest);
            for (int k = 1; k < 31; k++) {
                x.artefact(1000 + k, 0, 0, 0, 0);
            }
            CHECK.dueClosure(x, 0, 0);
            x.artefact(digest, 0, 0, 0, 0);
            CHECK.dueClosure(x, 0, 0, 31);
        }
        ProvenanceRows two = new ProvenanceRows();
        two.artefact(1, 0, 0, 0, 0);
        two.needs(0, 2);
        two.artefact(2, 0, 0, 0, 0);
        two.artefact(2, 0, 0, 0, 0);
        CHECK.dueClosure(two, 0, 0, 1);
    }

    private static void whatMeetsNoneIsMissing() {
        CHECK.about("what meets none is MISSING");
        for (long digest : Check.DIGESTS) {
            ProvenanceRows x = Check.withArtefacts(1);
            x.source(digest, 0, 0);
            x.path(0, 0, digest);
            x.needs(0, digest);
            x.policy(5, 0);
            CHECK.due("by no artefact: " + digest, x.missing(0, 0), 0);
            CHECK.due("it breaks kind 5", x.breaks(0, 0), true);
            x.artefact(digest, 0, 0, 0, 0);
            CHECK.due("by one: " + digest, x.missing(0, 0), -1);
            CHECK.due("it breaks kind 5 no more", x.breaks(0, 0), false);
        }
    }

    /** Two artefacts of one digest, which agree, with sources 0 .. 6. */
    private static ProvenanceRows twins() {
        ProvenanceRows x = Check.with(0, 7);
        x.artefact(5, 0, 0, 0, 0);
        x.artefact(5, 0, 0, 0, 0);
        x.policy(7, 0);
        return x;
    }

    private static void dueAgree(String what, ProvenanceRows x, boolean want) {
        CHECK.due(what + ": clash(0, 0)", x.clash(0, 0), want ? -1 : 0);
        CHECK.due(what + ": clash(0, 1)", x.clash(0, 1), want ? -1 : 1);
        CHECK.due(what + ": the first breaks kind 7", x.breaks(0, 0), !want);
        CHECK.due(what + ": the second breaks kind 7", x.breaks(1, 0), !want);
    }

    private static void agreeIfBuilderIsTheSame() {
        CHECK.about("AGREE if BUILDER is the same");
        for (int a = -1; a <= 7; a++) {
            for (int b = -1; b <= 7; b++) {
                ProvenanceRows x = new ProvenanceRows();
                x.artefact(5, a, 0, 0, 0);
                x.artefact(5, b, 0, 0, 0);
                x.policy(7, 0);
                dueAgree("builders " + a + " and " + b, x, a == b);
            }
        }
    }

    private static void agreeIfToolIsTheSame() {
        CHECK.about("AGREE if TOOL is the same");
        for (int a = 0; a <= 7; a++) {
            for (int b = 0; b <= 7; b++) {
                ProvenanceRows x = new ProvenanceRows();
                x.artefact(5, 0, a, 0, 0);
                x.artefact(5, 0, b, 0, 0);
                x.policy(7, 0);
                dueAgree("tools " + a + " and " + b, x, a == b);
            }
        }
    }

    private static void agreeIfSourcesAreTheSameInOrder() {
        CHECK.about("AGREE if SOURCES (as rows, in order) are the same");
        ProvenanceRows x = twins();
        dueAgree("none", x, true);
        for (int k = 0; k < 5; k++) {
            x.uses(0, k);
            dueAgree("the first has one more", x, false);
            x.uses(1, k);
            dueAgree("as many", x, true);
        }
        x.uses(1, 5);
        dueAgree("the second has one more", x, false);
        x.uses(0, 6);
        dueAgree("the sixth is another", x, false);
        ProvenanceRows turned = twins();
        turned.uses(0, 0);
        turned.uses(0, 1);
        turned.uses(1, 1);
        turned.uses(1, 0);
        dueAgree("in another order", turned, false);
        CHECK.due("though the same as sets", turned.differ(0, 1), 0);
        ProvenanceRows first = twins();
        first.uses(0, 0);
        first.uses(1, 1);
        dueAgree("the first is another", first, false);
        first.uses(0, 2);
        first.uses(1, 2);
        dueAgree("the first alone is another", first, false);
    }

    private static void agreeIfNeedsAreTheSameInOrder() {
        CHECK.about("AGREE if NEEDS (as rows, in order) are the same");
        ProvenanceRows x = twins();
        for (int k = 0; k < 5; k++) {
            x.needs(0, Check.DIGESTS[k]);
            dueAgree("the first has one more", x, false);
            x.needs(1, Check.DIGESTS[k]);
            dueAgree("as many", x, true);
        }
        x.needs(1, 6);
        dueAgree("the second has one more", x, false);
        x.needs(0, 7);
        dueAgree("the sixth is another", x, false);
        ProvenanceRows turned = twins();
        turned.needs(0, 0);
        turned.needs(0, 1);
        turned.needs(1, 1);
        turned.needs(1, 0);
        dueAgree("in another order", turned, false);
        CHECK.due("though the same as sets", turned.differ(0, 1), 0);
        ProvenanceRows first = twins();
        first.needs(0, 0);
        first.needs(1, 1);
        dueAgree("the first is another", first, false);
        first.needs(0, 2);
        first.needs(1, 2);
        dueAgree("the first alone is another", first, false);
    }

    /** Rows that are full stand next to those of other artefacts, which must not count. */
    private static void agreeWithFullRowsToTheLastArtefact() {
        CHECK.about("AGREE if SOURCES and NEEDS, six of each, are the same");
        ProvenanceRows x = Check.with(29, 7);
        for (int artefact = 29; artefact < 32; artefact++) {
            x.artefact(artefact == 30 ? 6 : 5, 0, 0, 0, 0);
            for (int k = 0; k < 6; k++) {
                x.uses(artefact, artefact == 30 ? 6 - k : k);
                x.needs(artefact, artefact == 30 ? 60 - k : k);
            }
        }
        x.policy(7, 0);
        CHECK.due("clash(0, 0)", x.clash(0, 0), -1);
        CHECK.due("breaks(29, 0)", x.breaks(29, 0), false);
        CHECK.due("breaks(31, 0)", x.breaks(31, 0), false);
    }

    private static void agreeWhateverElseDiffers() {
        CHECK.about("AGREE, AUTHOR, TIME and PATHS not being asked for");
        ProvenanceRows x = new ProvenanceRows();
        x.artefact(5, -1, 7, 0, 0);
        x.artefact(5, -1, 7, 15, 1000000000);
        x.policy(7, 0);
        x.path(0, 0, 1);
        x.path(1, 7, 1);
        dueAgree("other author, time and paths", x, true);
    }

    private static void closureGoesInRounds() {
        CHECK.about("in rounds, for each of the round before in order, in order");
        ProvenanceRows x = Check.withArtefacts(8);
        x.needs(7, 1002);
        x.needs(7, 1001);
        x.needs(2, 1006);
        x.needs(2, 1005);
        x.needs(1, 1004);
        x.needs(1, 1005);
        x.needs(6, 1003);
        x.needs(4, 1000);
        CHECK.dueClosure(x, 7, 7, 2, 1, 6, 5, 4, 3, 0);
    }

    private static void closureTakesEachOnce() {
        CHECK.about("each once");
        ProvenanceRows x = Check.withArtefacts(7);
        for (int k = 1; k <= 6; k++) {
            for (int other = 6; other >= 1; other--) {
                x.needs(k, 1000 + other);
            }
            x.needs(0, 1000 + k);
        }
        CHECK.dueClosure(x, 0, 0, 1, 2, 3, 4, 5, 6);
        CHECK.dueClosure(x, 3, 3, 6, 5, 4, 2, 1);
    }

    private static void closureGoesAlongRingsOnce() {
        CHECK.about("rings are gone along once");
        for (int length : new int[] {1, 2, 3, 31, 32}) {
            ProvenanceRows x = Check.withArtefacts(32);
            for (int k = 0; k < length; k++) {
                x.needs(k, 1000 + (k + 1) % length);
            }
            CHECK.due("from the first", x.closure(0), length);
            CHECK.due("its end", x.at(length - 1), length - 1);
            CHECK.due("from the last", x.closure(length - 1), length);
            CHECK.due("its begin", x.at(0), length - 1);
            CHECK.due("its end", x.at(length - 1), Math.max(length - 2, 0));
            CHECK.due("one more", x.at(length), -1);
        }
        ProvenanceRows outside = Check.withArtefacts(3);
        outside.needs(0, 1001);
        outside.needs(1, 1002);
        outside.needs(2, 1001);
        CHECK.dueClosure(outside, 0, 0, 1, 2);
        outside.policy(5, 0);
        CHECK.due("verdict(0)", outside.verdict(0), -1);
        CHECK.due("holds(1, 0)", outside.holds(1, 0), -1);
    }

    private static void closureTakesOnlyTheFirstOfADigest() {
        CHECK.about("the CLOSURE: itself, and those that meet NEEDS");
        ProvenanceRows x = new ProvenanceRows();
        x.artefact(1, 0, 0, 0, 0);
        x.artefact(1, 0, 0, 0, 0);
        x.needs(0, 1);
        x.needs(1, 1);
        CHECK.dueClosure(x, 0, 0);
        CHECK.dueClosure(x, 1, 1, 0);
    }

    private static void rulesAtMost16AreAllKept() {
        CHECK.about("RULES of the POLICY, at most 16, in order");
        ProvenanceRows x = Check.withArtefacts(16);
        for (int k = 0; k < 16; k++) {
            CHECK.due("rule " + k, x.policy(9, 16 - k), k);
            x.needs(k, 1000 + k + 1);
        }
        for (int k = 0; k < 16; k++) {
            for (int rule = 0; rule < 16; rule++) {
                CHECK.due("breaks(" + k + ", " + rule + ")", x.breaks(k, rule), 16 - k > 16 - rule);
            }
            CHECK.due("verdict(" + k + ")", x.verdict(k), k == 15 ? -1 : k + 1);
        }
    }

    /** 24 + 32 + 192 + 192 + 16 calls fill it, so that 56 are left to ask. */
    private static void theFullestObjectWithin512Calls() {
        CHECK.about("at most 512 calls");
        ProvenanceRows x = Check.with(32, 24);
        for (int k = 0; k < 192; k++) {
            CHECK.due("uses", x.uses(k % 32, (k % 32 + 4 * (k / 32)) % 24), true);
            CHECK.due("needs", x.needs(k % 32, 1000 + (k % 32 * 6 + k / 32 + 1) % 32), true);
        }
        for (int k = 0; k < 16; k++) {
            CHECK.due("policy", x.policy(k == 15 ? 3 : 9, k == 15 ? 1 : 32), k);
        }
        for (int k = 0; k < 32; k++) {
            CHECK.due("closure(" + k + ")", x.closure(k), 32);
        }
        CHECK.due("holds(1, 31)", x.holds(1, 31), 31);
        CHECK.due("holds(24, 0)", x.holds(24, 0), 0);
        CHECK.due("clash(0, 0)", x.clash(0, 0), -1);
        for (int k = 0; k < 10; k++) {
            CHECK.due("verdict(" + k + ")", x.verdict(k), 15);
            CHECK.due("culprit()", x.culprit(), k);
        }
        CHECK.due("the 512th call", x.breaks(31, 15), true);
    }
}
