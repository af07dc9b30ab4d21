/** Counts calls whose answer is not the one that is due, and tells them. */
final class Due {
    private int calls = 0;
    private int wrong = 0;
    private String test = "";

    /** Names the test that the next calls belong to. */
    void name(String newTest) {
        test = newTest + ": ";
    }

    void same(String call, long got, long want) {
        calls++;
        if (got != want) {
            fail(call + " answered " + got + ", due is " + want);
        }
    }

    void fail(String what) {
        wrong++;
        if (wrong <= 50) {
            System.out.println(test + what);
        }
    }

    void same(String call, boolean got, boolean want) {
        same(call, got ? 1 : 0, want ? 1 : 0);
    }

    /** OUT as a whole, by size and byteAt. */
    void out(String call, PrefixMill mill, int... want) {
        same(call + ", then size()", mill.size(), want.length);
        for (int k = 0; k < want.length; k++) {
            same(call + ", then byteAt(" + k + ")", mill.byteAt(k), want[k]);
        }
        same(call + ", then byteAt(" + want.length + ")", mill.byteAt(want.length), -1);
    }

    boolean isWrong() {
        return wrong > 0;
    }

    void end() {
        System.out.println(calls + " answers, " + wrong + " not as due");
        if (wrong > 0 || calls == 0) {
            System.exit(1);
        }
    }
}
