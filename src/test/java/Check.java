/** Counts the answers that are not as due, and tells each. */
final class Check {
    /** Numbers that no source, artefact, rule or path ever has. */
    static final int[] WRONG_NUMBERS = {
        -1, -2, 32, 33, 64, 256, Integer.MAX_VALUE, Integer.MIN_VALUE};

    private int asked = 0;
    private int wrong = 0;

    void due(String call, long got, long want) {
        asked++;
        if (got != want) {
            wrong++;
            System.out.println(call + " answered " + got + ", due is " + want);
        }
    }

    void due(String call, boolean got, boolean want) {
        asked++;
        if (got != want) {
            wrong++;
            System.out.println(call + " answered " + got + ", due is " + want);
        }
    }

    boolean allRight() {
        return wrong == 0;
    }

    void end() {
        System.out.println(asked + " answers, " + wrong + " not as due");
        if (wrong != 0) {
            System.exit(1);
        }
    }

    /** An object with this many artefacts of the digests 1000, 1001, .. , all else being 0. */
    static ProvenanceRows withArtefacts(int count) {
        ProvenanceRows x = new ProvenanceRows();
        for (int k = 0; k < count; k++) {
            x.artefact(1000 + k, 0, 0, 0, 0);
        }
        return x;
    }

    /** The same with this many sources of the digests 1, 2, .. , on branch 0, without reviews. */
    static ProvenanceRows with(int artefacts, int sources) {
        ProvenanceRows x = withArtefacts(artefacts);
        for (int k = 0; k < sources; k++) {
            x.source(1 + k, 0, 0);
        }
        return x;
    }
}
