/** Compares answers with those that are due, and tells at the end whether all were right. */
final class Due {
    private final String test;
    private int wrong = 0;
    private int compared = 0;

    Due(String test) {
        this.test = test;
    }

    void same(String call, long got, long want) {
        compared++;
        if (got != want) {
            wrong++;
            System.out.println(test + ": " + call + " answered " + got + ", due is " + want);
        }
    }

    /** Compares all that can be read of two threads: 'call' says what should have left them alike. */
    void sameThread(String call, String got, String want) {
        compared++;
        if (!got.equals(want)) {
            wrong++;
            System.out.println(test + ": after " + call + "\n  stands " + got + "\n  due is " + want);
        }
    }

    void end() {
        System.out.println(test + ": " + compared + " compared, " + wrong + " wrong");
        if (wrong != 0 || compared == 0) {
            System.exit(1);
        }
    }
}
