/** What the tests share: a count of wrong answers, texts fed, exceptions caught. */
final class Check {
    private int wrong = 0;
    private int asked = 0;

    void due(String call, long got, long want) {
        asked++;
        if (got != want) {
            wrong++;
            System.out.println(call + " answered " + got + ", due is " + want);
        }
    }

    void due(String call, boolean got, boolean want) {
        due(call, got ? 1 : 0, want ? 1 : 0);
    }

    void end(String name) {
        System.out.println(name + ": " + asked + " answers, " + wrong + " wrong");
        if (wrong != 0 || asked == 0) {
            System.exit(1);
        }
    }

    static long eight(String text, int from) {
        long eight = 0;
        for (int i = 0; i < 8; i++) {
            eight = eight << 8 | (from + i < text.length() ? text.charAt(from + i) & 0xFF : 0);
        }
        return eight;
    }

    static int feed(SoapTreaty x, String text) {
        int signs = x.count(12);
        for (int at = 0; at < text.length(); at += 24) {
            signs = x.feed(eight(text, at), eight(text, at + 8), eight(text, at + 16));
        }
        return signs;
    }

    static int congress(SoapTreaty x, String text) {
        feed(x, text);
        return x.congress();
    }

    static int years(SoapTreaty x, String text) {
        feed(x, text);
        return x.years();
    }

    /** A new object with that congress; a fault in it is the test's own fault. */
    static SoapTreaty told(String text) {
        SoapTreaty x = new SoapTreaty();
        int fault = congress(x, text);
        if (fault != 0) {
            throw new IllegalStateException("fault " + fault % 16 + " at " + fault / 16 + " in " + text);
        }
        return x;
    }

    static int fault(int kind, int place) {
        return kind + 16 * place;
    }

    /** All that can be asked about how it is, but the tape: some hundred calls at most, so twice or thrice an object. */
    static String all(SoapTreaty x) {
        StringBuilder all = new StringBuilder();
        for (int what = 0; what <= 11; what++) {
            all.append(" count").append(what).append('=').append(x.count(what));
        }
        for (int power = 0; power < x.count(0); power++) {
            for (int what = 0; what <= 5; what++) {
                all.append(" power").append(power).append('.').append(what).append('=').append(x.power(power, what));
            }
        }
        for (int cake = 0; cake < x.count(1); cake++) {
            for (int what = 0; what <= 6; what++) {
                all.append(" cake").append(cake).append('.').append(what).append('=').append(x.cake(cake, what));
            }
        }
        for (int what = 0; what <= 2; what++) {
            all.append(" judged").append(what).append('=').append(x.judged(what));
            all.append(" sets").append(what).append('=').append(x.sets(what));
        }
        return all.toString();
    }

    void stays(String call, SoapTreaty x, String before) {
        String after = all(x);
        due(call, after.equals(before), true);
        if (!after.equals(before)) {
            System.out.println("  before:" + before + "\n  after: " + after);
        }
    }

    /** The answers for whats from the first on, one for each due. */
    interface Asked {
        long answer(int what);
    }

    void row(String call, Asked asked, int first, long... due) {
        for (int i = 0; i < due.length; i++) {
            due(call + " " + (first + i), asked.answer(first + i), due[i]);
        }
    }
}
