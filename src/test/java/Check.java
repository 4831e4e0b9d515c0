import java.util.stream.IntStream;

/** Counts the answers that are not as due, and tells each. */
final class Check {
    /** All different, but not any more once a part of their 64 bits is left out. */
    static final long[] DIGESTS = {
        0, 1, -1, Long.MIN_VALUE, Long.MAX_VALUE, Long.MIN_VALUE + 1, Long.MAX_VALUE - 1,
        1L << 8, 1L << 16, 1L << 31, 1L << 32, -1L << 32, 0xFFFFFFFFL};

    /** Numbers that no source, artefact, rule or path ever has. */
    static final int[] WRONG_NUMBERS = {
        -1, -2, 32, 33, 64, 256, Integer.MAX_VALUE, Integer.MIN_VALUE};

    private int asked = 0;
    private int wrong = 0;
    private String sentence = "";

    /** Tells which sentence of the document the next answers are asked for. */
    void about(String text) {
        sentence = text + ": ";
    }

    void due(String call, long got, long want) {
        asked++;
        if (got != want) {
            wrong++;
            System.out.println(sentence + call + " answered " + got + ", due is " + want);
        }
    }

    void due(String call, boolean got, boolean want) {
        asked++;
        if (got != want) {
            wrong++;
            System.out.println(sentence + call + " answered " + got + ", due is " + want);
        }
    }

    /** The closure of an artefact, asked for whole: how many, each one, and no more. */
    void dueClosure(ProvenanceRows x, int artefact, int... want) {
        String call = "closure(" + artefact + ")";
        due(call, x.closure(artefact), want.length);
        for (int i = 0; i < want.length; i++) {
            due(call + ", at(" + i + ")", x.at(i), want[i]);
        }
        due(call + ", one more", x.at(want.length), -1);
    }

    boolean allRight() {
        return wrong == 0;
    }

    void end() {
        System.out.println(asked + " answers, " + wrong + " not as due");
        if (wrong != 0) {
            System.exit(1);
        }
    }

    /**
     * Numbers outside least .. greatest: those beside it, the ends of what an int can be, and ones
     * that would lie within if a part of their bits were left out.
     */
    static int[] outside(int least, int greatest) {
        int[] tried = {
            least - 1, least - 2, greatest + 1, greatest + 2, least + 32, greatest + 64,
            least + (1 << 8), least + (1 << 16), greatest + (1 << 24), least + Integer.MIN_VALUE,
            Integer.MIN_VALUE, Integer.MIN_VALUE + 1, Integer.MAX_VALUE, Integer.MAX_VALUE - 1};
        return IntStream.of(tried).filter(n -> n < least || n > greatest).distinct().toArray();
    }

    /** An object with this many artefacts of the digests 1000, 1001, .. , all else being 0. */
    static ProvenanceRows withArtefacts(int count) {
        ProvenanceRows x = new ProvenanceRows();
        for (int k = 0; k < count; k++) {
            x.artefact(1000 + k, 0, 0, 0, 0);
        }
        return x;
    }

    /** The same with this many sources of the digests 1, 2, .. , on branch 0, without reviews. */
    static ProvenanceRows with(int artefacts, int sources) {
        ProvenanceRows x = withArtefacts(artefacts);
        for (int k = 0; k < sources; k++) {
            x.source(1 + k, 0, 0);
        }
        return x;
    }
}
