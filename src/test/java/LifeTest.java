import java.util.NoSuchElementException;

/** An object's 512 calls: all of them are answered, whatever is asked in whatever state, and only rests ever throws. */
final class LifeTest {
    private static final Check CHECK = new Check();
    private static final int CALLS = 512;
    private static final String FIVE = "power p plain water 4;power n naval water 9;power d dry water 9;"
        + "power c carver water 9;power q plain water 9;";
    private static final String CAKES = "cake ca from n to p thick 9 hard 5;cake cb from p to n thick 9 hard 5;"
        + "cake cc from p to d thick 9 hard 5;cake cd from p to c thick 9 hard 5;pebble ca 7;";
    private static final int[] FAR = {Integer.MIN_VALUE, -33, -32, -2, -1, 0, 1, 3, 5, 7, 31, 32, 33, 40, 99, 200, 9999,
        Integer.MAX_VALUE};

    public static void main(String[] args) {
        manyWashes();
        manyWeeks();
        manyFeeds();
        manyMarks();
        manyCongresses();
        farArguments();
        CHECK.end("LifeTest");
    }

    /** Check.told asks once how many signs there are, feeds, and reads. */
    private static int callsToTell(String text) {
        return 1 + (text.length() + 23) / 24 + 1;
    }

    private static void manyWashes() {
        SoapTreaty x = Check.told(FIVE + CAKES);
        int washes = CALLS - 4 - callsToTell(FIVE + CAKES);
        for (int i = 0; i < washes; i++) {
            x.wash(3);
        }
        CHECK.due("P6 washed with up to the 512th call", x.cake(3, 3), washes);
        CHECK.due("P33 the last 16", x.count(11), 16);
        CHECK.due("P13 undo", x.undo(), true);
        CHECK.due("P6 the 512th call", x.cake(3, 3), washes - 1);
    }

    private static void manyWeeks() {
        SoapTreaty x = Check.told(FIVE + CAKES);
        int weeks = CALLS - 2 - callsToTell(FIVE + CAKES);
        for (int i = 0; i < weeks; i++) {
            x.week();
        }
        CHECK.due("P33 weeks up to the 512th call", x.count(3), weeks);
        CHECK.due("P6 a carver's, the 512th call", x.cake(3, 3), weeks);
    }

    private static void manyFeeds() {
        SoapTreaty x = new SoapTreaty();
        for (int i = 1; i < CALLS; i++) {
            CHECK.due("P2 feed " + i, x.feed(0x2020202020202020L, 0x0A0A0A0A0A0A0A0AL, 0x2020202020202020L), Math.min(1000, 24 * i));
        }
        CHECK.due("P3 the 512th call", x.congress(), 0);
    }

    private static void manyMarks() {
        SoapTreaty x = Check.told(FIVE + CAKES);
        int rounds = (CALLS - 1 - callsToTell(FIVE + CAKES)) / 3;
        for (int i = 0; i < rounds; i++) {
            x.week();
            x.mark(i & 3, false);
            CHECK.due("P32 gone back to, round " + i, x.mark(i & 3, true), true);
        }
        CHECK.due("P33 as many weeks", x.count(3), rounds);
    }

    private static void manyCongresses() {
        SoapTreaty x = new SoapTreaty();
        for (int i = 0; i < CALLS / 3; i++) {
            x.feed(Check.eight("sliver ", 0), Check.eight(1 + i % 9 + ";", 0), 0);
            CHECK.due("P3 congress " + i, x.congress(), 0);
            CHECK.due("P33 sliver of congress " + i, x.count(2), 1 + i % 9);
        }
    }

    private static void farArguments() {
        for (int a : FAR) {
            for (int b : FAR) {
                SoapTreaty x = Check.told(FIVE + CAKES);
                Check.years(x, "wash ca;press ca;");
                CHECK.due("answered: " + a + ", " + b, answersAll(x, a, b) && answersAll(new SoapTreaty(), a, b), true);
            }
        }
    }

    private static int basin(SoapTreaty x, int both, int loses, int what) {
        try {
            return x.rests(both, loses, 0, what);
        } catch (NoSuchElementException e) {
            return -1;
        }
    }

    private static boolean answersAll(SoapTreaty x, int a, int b) {
        x.feed((long) a << 32 | b, ~(long) a, (long) b << 17);
        x.wash(a);
        x.hair(b);
        x.gift(a, b);
        x.press(a);
        x.pick(b);
        x.mark(a, false);
        x.mark(b, true);
        x.week();
        long answers = x.power(a, b) + x.cake(a, b) + x.earnest(a, b) + x.judged(a) + x.gone(a) + x.worn(a) + x.last()
            + x.best(a) + x.pressing(a) + x.peace() + x.pacts(a) + x.soonest() + x.blocs() + x.devoted() + x.sets(a)
            + x.ask(a) + x.count(a);
        for (int c : FAR) {
            x.see(a, b, c);
            answers += x.chance(a, b, c) + x.reigns(a, b, c) + x.sets(0) + x.ask(1);
            answers += basin(x, a, b, c) + basin(x, 0, 0, c);
        }
        x.undo();
        x.congress();
        x.years();
        return answers > Long.MIN_VALUE;
    }
}
