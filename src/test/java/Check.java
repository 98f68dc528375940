/** What the tests share: a count of wrong answers, texts fed, exceptions caught. */
final class Check {
    private int wrong = 0;
    private int asked = 0;

    void due(String call, long got, long want) {
        asked++;
        if (got != want) {
            wrong++;
            System.out.println(call + " answered " + got + ", due is " + want);
        }
    }

    void due(String call, boolean got, boolean want) {
        due(call, got ? 1 : 0, want ? 1 : 0);
    }

    void end(String name) {
        System.out.println(name + ": " + asked + " answers, " + wrong + " wrong");
        if (wrong != 0 || asked == 0) {
            System.exit(1);
        }
    }

    static long eight(String text, int from) {
        long eight = 0;
        for (int i = 0; i < 8; i++) {
            eight = eight << 8 | (from + i < text.length() ? text.charAt(from + i) & 0xFF : 0);
        }
        return eight;
    }

    static int feed(SoapTreaty x, String text) {
        int signs = x.count(12);
        for (int at = 0; at < text.length(); at += 24) {
            signs = x.feed(eight(text, at), eight(text, at + 8), eight(text, at + 16));
        }
        return signs;
    }

    static int congress(SoapTreaty x, String text) {
        feed(x, text);
        return x.congress();
    }

    static int years(SoapTreaty x, String text) {
        feed(x, text);
        return x.years();
    }

    /** A new object with that congress; a fault in it is the test's own fault. */
    static SoapTreaty told(String text) {
        SoapTreaty x = new SoapTreaty();
        int fault = congress(x, text);
        if (fault != 0) {
            throw new IllegalStateException("fault " + fault % 16 + " at " + fault / 16 + " in " + text);
        }
        return x;
    }

    static int fault(int kind, int place) {
        return kind + 16 * place;
    }
}
