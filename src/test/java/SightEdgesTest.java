import java.util.NoSuchElementException;

/** Promises 26 to 31: each boundary that the document names of what is seen, sets, chances, basins and reigns. */
final class SightEdgesTest {
    private static final Check CHECK = new Check();
    private static final int THROWN = -1000;
    private static final int[] NO_CAKES = {-1, 7, 8, 31, 32, -32, Integer.MIN_VALUE, Integer.MAX_VALUE};
    /** Numbers 0 plain, 1 naval, 2 dry, 3 carver, 4 plain. */
    private static final String FIVE = "power p plain water 4;power n naval water 9;power d dry water 9;"
        + "power c carver water 9;power q plain water 9;";
    private static final String SEVEN = "cake ca from n to p thick 9 hard 5;cake cb from p to n thick 8 hard 5;"
        + "cake cc from p to d thick 7 hard 5;cake cd from p to c thick 6 hard 5;cake ce from p to q thick 5 hard 5;"
        + "cake cf from q to p thick 1 hard 5;cake cg from d to p thick 40 hard 5;";

    public static void main(String[] args) {
        seeRange();
        seeEight();
        seeAnything();
        setsAsked();
        setsBySight();
        setsOfKinds();
        setsAndWhatIsDone();
        askRange();
        askParts();
        chanceRange();
        chances();
        chanceByWashing();
        rests();
        restsOthers();
        reignsRange();
        reignsByHand();
        reignsWithoutCakes();
        CHECK.end("SightEdgesTest");
    }

    private static SoapTreaty told(String more) {
        return Check.told(FIVE + SEVEN + more);
    }

    // ---- promise 26

    private static void seeRange() {
        SoapTreaty x = told("");
        String before = Check.all(x);
        for (int cake : NO_CAKES) {
            CHECK.due("P26 no cake " + cake, x.see(cake, 1, 1), false);
        }
        for (int weeks : new int[] {0, -1, 21, 22, Integer.MIN_VALUE, Integer.MAX_VALUE}) {
            CHECK.due("P26 not 1 to 20 weeks: " + weeks, x.see(0, weeks, 1), false);
        }
        for (int thick : new int[] {-1, -2, 41, 42, Integer.MIN_VALUE, Integer.MAX_VALUE}) {
            CHECK.due("P26 not 0 to 40 thick: " + thick, x.see(0, 1, thick), false);
        }
        CHECK.stays("P26 what is refused is not seen", x, before);
        CHECK.due("P26 the first cake, 1 week, 0 thick", x.see(0, 1, 0), true);
        CHECK.due("P26 the last cake, 20 weeks, 40 thick", x.see(6, 20, 40), true);
        CHECK.due("P26 2 weeks, 1 thick", x.see(3, 2, 1), true);
        CHECK.due("P26 19 weeks, 39 thick", x.see(3, 19, 39), true);
        CHECK.due("P33 seen", x.count(10), 4);
        SoapTreaty one = Check.told(FIVE + "cake ca from n to p thick 9 hard 5;");
        CHECK.due("P26 no second cake of one", one.see(1, 1, 1), false);
    }

    private static void seeEight() {
        SoapTreaty x = told("");
        for (int i = 1; i <= 8; i++) {
            CHECK.due("P26 the same " + i + " times", x.see(6, 20, 40), true);
            CHECK.due("P33 seen", x.count(10), i);
        }
        CHECK.due("P26 a ninth", x.see(6, 20, 40), false);
        CHECK.due("P26 another ninth", x.see(0, 1, 1), false);
        CHECK.due("P33 eight still", x.count(10), 8);
        CHECK.row("P27 the ninth counts for nothing: sets", x::sets, 0, 8, 1, 27);
        CHECK.due("P33 seeing is not done by hand", x.count(11), 0);
        SoapTreaty last = told("");
        for (int i = 1; i < 8; i++) {
            last.see(6, 20, 40);
        }
        last.see(1, 1, 8);
        CHECK.row("P27 the eighth counts: sets", last::sets, 0, 4, 3, 27);
    }

    private static void seeAnything() {
        SoapTreaty x = told("");
        x.wash(5);
        CHECK.due("P26 one that is gone", x.see(5, 1, 0), true);
        CHECK.row("P27 it parts nothing: sets", x::sets, 0, 16, 0, 27);
        CHECK.due("P26 what can't be", x.see(0, 1, 40), true);
        CHECK.row("P27 no set: sets", x::sets, -1, -1, 0, -1, -1, -1);
        CHECK.due("P28 no set", x.ask(1), -1);
    }

    // ---- promise 27

    private static void setsAsked() {
        SoapTreaty x = told("");
        CHECK.row("P27 nothing seen: sets", x::sets, -1, -1, 16, 0, 27, -1);
        for (int what : new int[] {-2, 4, 32, Integer.MIN_VALUE, Integer.MAX_VALUE}) {
            CHECK.due("P27 no what " + what, x.sets(what), -1);
        }
        String kinds = "plain naval dry carver";
        for (String kind : kinds.split(" ")) {
            StringBuilder text = new StringBuilder();
            for (int number = 0; number <= 5; number++) {
                int all = kind.equals("dry") ? 0 : (1 << number) - 1;
                CHECK.row("P27 " + number + " powers, " + kind + ": sets", Check.told(text.toString())::sets, 0, all + 1, 0, all);
                text.append("power v").append((char) ('a' + number)).append(' ').append(kind).append(" water 1;");
            }
        }
    }

    /** A cake of 9 that p washes with is 8 behind one week, 6 behind three, 0 behind nine. */
    private static void seen(String sentence, int weeks, int thick, int number, int all, int some) {
        SoapTreaty x = told("");
        CHECK.due("P26 seen", x.see(0, weeks, thick), true);
        CHECK.row("P27 " + sentence + " (" + weeks + " weeks, " + thick + " thick): sets", x::sets, 0, number, all, some);
    }

    private static void setsBySight() {
        seen("p washes", 1, 8, 8, 0, 26);
        seen("p is dry", 1, 9, 8, 1, 27);
        seen("one less", 1, 7, 0, -1, -1);
        seen("one more", 1, 10, 0, -1, -1);
        seen("p washes thrice", 3, 6, 8, 0, 26);
        seen("p is dry for three weeks", 3, 9, 8, 1, 27);
        seen("p does not begin later", 3, 7, 0, -1, -1);
        seen("1 is left", 8, 1, 8, 0, 26);
        seen("0 is left", 9, 0, 8, 0, 26);
        seen("0 is left long behind", 20, 0, 8, 0, 26);
        seen("p is dry for 20 weeks", 20, 9, 8, 1, 27);
        SoapTreaty x = told("");
        x.see(0, 2, 7);
        x.see(1, 2, 8);
        CHECK.row("P27 p washes and n is dry: sets", x::sets, 0, 4, 2, 26);
        x.see(4, 1, 3);
        CHECK.row("P27 and q washes: sets", x::sets, 0, 2, 2, 10);
        x.see(6, 20, 20);
        CHECK.row("P27 p washes with another one, too: sets", x::sets, 0, 2, 2, 10);
        x.see(6, 20, 40);
        CHECK.row("P27 p can't be both: sets", x::sets, 0, 0, -1, -1);
    }

    private static void setsOfKinds() {
        SoapTreaty x = told("");
        x.see(2, 20, 7);
        CHECK.row("P27 a dry one is in no set: sets", x::sets, 0, 16, 0, 27);
        x.see(3, 20, 6);
        CHECK.row("P27 a carver can be in any: sets", x::sets, 0, 16, 0, 27);
        x.see(2, 20, 6);
        CHECK.row("P27 a dry one does not wash: sets", x::sets, 0, 0, -1, -1);
        SoapTreaty hair = told("");
        hair.hair(0);
        hair.see(0, 5, 9);
        CHECK.row("P27 a hair hides who is dry: sets", hair::sets, 0, 16, 0, 27);
        SoapTreaty all = Check.told("power a plain water 1;power b plain water 1;cake ca from a to b thick 9 hard 1;cake cb from b to a thick 9 hard 1;");
        all.see(0, 1, 9);
        all.see(1, 1, 9);
        CHECK.row("P27 one set, both: sets", all::sets, 0, 1, 3, 3);
        SoapTreaty none = Check.told("power a plain water 1;power b plain water 1;cake ca from a to b thick 9 hard 1;cake cb from b to a thick 9 hard 1;");
        none.see(0, 1, 8);
        none.see(1, 1, 8);
        CHECK.row("P27 one set, nobody: sets", none::sets, 0, 1, 0, 0);
    }

    private static void setsAndWhatIsDone() {
        SoapTreaty x = told("");
        x.mark(0, false);
        x.see(0, 1, 9);
        CHECK.row("P27 p is dry: sets", x::sets, 0, 8, 1, 27);
        x.gift(0, 4);
        CHECK.row("P27 whose it is now: sets", x::sets, 0, 8, 16, 27);
        x.undo();
        x.mark(0, true);
        CHECK.row("P32 nothing was seen then: sets", x::sets, 0, 16, 0, 27);
        CHECK.due("P33 none", x.count(10), 0);
        x.see(1, 1, 8);
        x.mark(1, false);
        x.mark(0, true);
        x.mark(1, true);
        CHECK.row("P32 it was seen then: sets", x::sets, 0, 8, 2, 27);
        x.mark(0, true);
        x.see(0, 2, 7);
        x.mark(2, false);
        x.mark(1, true);
        CHECK.row("P32 n is dry, as it was seen: sets", x::sets, 0, 8, 2, 27);
        x.mark(2, true);
        CHECK.row("P32 p washes, as it was seen: sets", x::sets, 0, 8, 0, 26);
        x.mark(0, true);
        x.see(0, 9, 9);
        x.mark(2, true);
        CHECK.row("P32 behind 2 weeks, 7 thick, as it was seen: sets", x::sets, 0, 8, 0, 26);
        CHECK.due("P32 room for seven more", x.see(0, 1, 1) && x.see(0, 1, 1) && x.see(0, 1, 1) && x.see(0, 1, 1)
            && x.see(0, 1, 1) && x.see(0, 1, 1) && x.see(0, 1, 1), true);
        CHECK.due("P26 no more", x.see(0, 1, 1), false);
    }

    // ---- promise 28

    private static void askRange() {
        SoapTreaty x = told("");
        for (int weeks : new int[] {0, -1, 21, 22, Integer.MIN_VALUE, Integer.MAX_VALUE}) {
            CHECK.due("P28 not 1 to 20 weeks: " + weeks, x.ask(weeks), -1);
        }
        CHECK.due("P28 1 week", x.ask(1), 0);
        CHECK.due("P28 20 weeks", x.ask(20), 0);
        String before = Check.all(x);
        x.ask(20);
        CHECK.stays("P28 asking changes nothing", x, before);
    }

    private static void askParts() {
        SoapTreaty x = told("");
        x.see(6, 1, 39);
        CHECK.due("P28 p is known", x.ask(5), 1);
        x.see(1, 1, 8);
        CHECK.due("P28 n is known, d and c part nothing", x.ask(5), 4);
        CHECK.due("P27 more than one set is left", x.sets(0), 4);
        x.see(4, 1, 3);
        CHECK.due("P28 none parts them: a carver's does not", x.ask(5), -1);
        CHECK.due("P27 though two sets are left", x.sets(0), 2);
        SoapTreaty hair = told("");
        hair.hair(0);
        CHECK.due("P28 a hair parts nothing", hair.ask(5), 1);
        hair.wash(5);
        hair.hair(1);
        CHECK.due("P28 one that is gone parts nothing", hair.ask(5), 4);
        hair.hair(4);
        CHECK.due("P28 the last one does", hair.ask(5), 6);
        hair.hair(6);
        CHECK.due("P28 none parts them", hair.ask(5), -1);
        SoapTreaty late = Check.told(FIVE + "cake ca from n to p thick 9 hard 5;cake cb from n to q thick 9 hard 2;wears 10+tough<used;");
        CHECK.due("P28 too early for both", late.ask(13), -1);
        CHECK.due("P28 early enough for the second", late.ask(14), 1);
        CHECK.due("P28 too early for the first", late.ask(16), 1);
        CHECK.due("P28 of equal ones the first", late.ask(17), 0);
        SoapTreaty half = Check.told(FIVE + "cake ca from p to n thick 9 hard 5;cake cb from n to q thick 9 hard 2;wears 1;");
        CHECK.due("P28 half of 1 parts nothing", half.ask(20), 1);
        CHECK.due("P28 no cake", Check.told(FIVE).ask(20), -1);
        CHECK.due("P28 one set alone", Check.told("power a dry water 1;power b dry water 1;cake ca from a to b thick 1 hard 1;").ask(1), -1);
    }

    // ---- promise 29

    private static void chanceRange() {
        SoapTreaty x = told("pebble ca 8;pebble cg 39;");
        for (int cake : NO_CAKES) {
            CHECK.due("P29 no cake " + cake, x.chance(cake, 1, 5), -1);
        }
        for (int weeks : new int[] {0, -1, 7, 8, Integer.MIN_VALUE, Integer.MAX_VALUE}) {
            CHECK.due("P29 not 1 to 6 weeks: " + weeks, x.chance(0, weeks, 5), -1);
        }
        for (int odds : new int[] {-1, -2, 11, 12, Integer.MIN_VALUE, Integer.MAX_VALUE}) {
            CHECK.due("P29 not 0 to 10: " + odds, x.chance(0, 1, odds), -1);
        }
        CHECK.due("P29 it has no pebble", x.chance(1, 1, 5), -1);
        for (int odds = 0; odds <= 10; odds++) {
            CHECK.due("P29 one week by " + odds, x.chance(0, 1, odds), 100000 * odds);
            CHECK.due("P29 the last cake, one week by " + odds, x.chance(6, 1, odds), 100000 * odds);
        }
        CHECK.due("P29 by 0 of six", x.chance(0, 6, 0), 0);
        CHECK.due("P29 by 10 of six", x.chance(0, 6, 10), 1000000);
        String before = Check.all(x);
        x.chance(0, 6, 5);
        CHECK.stays("P29 nothing is done", x, before);
    }

    private static long choose(int of, int some) {
        long ways = 1;
        for (int i = 1; i <= some; i++) {
            ways = ways * (of - i + 1) / i;
        }
        return ways;
    }

    /** At least so many of the weeks, each by odds of ten: millionths. */
    private static long atLeast(int needed, int weeks, int odds) {
        long share = 0;
        for (int some = needed; some <= weeks; some++) {
            long ways = choose(weeks, some);
            for (int i = 0; i < weeks; i++) {
                ways *= i < some ? odds : 10 - odds;
            }
            share += ways;
        }
        long whole = 1;
        for (int i = 0; i < weeks; i++) {
            whole *= 10;
        }
        return share * 1000000 / whole;
    }

    private static void chances() {
        for (int needed = 0; needed <= 7; needed++) {
            SoapTreaty x = Check.told(FIVE + "cake ca from n to p thick 9 hard 5;pebble ca " + (9 - needed) + ";wears 1;");
            for (int weeks = 1; weeks <= 6; weeks++) {
                for (int odds = 0; odds <= 10; odds++) {
                    CHECK.due("P29 " + needed + " needed of " + weeks + " by " + odds, x.chance(0, weeks, odds), atLeast(needed, weeks, odds));
                }
            }
        }
        SoapTreaty least = Check.told(FIVE + "cake ca from n to p thick 9 hard 5;pebble ca 3;wears 1;");
        CHECK.due("P29 one millionth", least.chance(0, 6, 1), 1);
        CHECK.due("P29 all but one millionth", Check.told(FIVE + "cake ca from n to p thick 9 hard 5;pebble ca 8;wears 1;").chance(0, 6, 9), 999999);
    }

    private static void chanceByWashing() {
        SoapTreaty x = Check.told(FIVE + "cake ca from n to p thick 9 hard 5;cake cb from p to d thick 9 hard 5;"
            + "cake cc from p to c thick 9 hard 5;cake cd from n to p thick 9 hard 5;pebble ca 6;pebble cb 6;pebble cc 6;pebble cd 9;wears 2+used;");
        CHECK.due("P29 2 and 3 are worn by two weeks", x.chance(0, 2, 5), 250000);
        CHECK.due("P29 not by one", x.chance(0, 1, 5), 0);
        CHECK.due("P29 a dry one's never", x.chance(1, 6, 10), 0);
        CHECK.due("P29 a carver's never", x.chance(2, 6, 10), 0);
        CHECK.due("P29 found already", x.chance(3, 1, 0), 1000000);
        x.hair(0);
        CHECK.due("P29 a hair in it", x.chance(0, 6, 10), 0);
        x.pick(0);
        x.wash(0);
        CHECK.due("P29 from now on", x.chance(0, 1, 5), 500000);
        x.press(0);
        CHECK.due("P29 pressed", x.chance(0, 1, 0), 1000000);
    }

    // ---- promise 30

    private static int basin(SoapTreaty x, int both, int loses, int gets, int what) {
        try {
            return x.rests(both, loses, gets, what);
        } catch (NoSuchElementException e) {
            return THROWN;
        }
    }

    /** Both dry is always at rest; both wash if that is no less than what the dry one gets; one alone if he loses nothing. */
    private static void rests() {
        for (int both = 0; both <= 9; both++) {
            for (int loses = 0; loses <= 9; loses++) {
                for (int gets = 0; gets <= 9; gets++) {
                    boolean[] rest = {true, loses == 0 && gets >= both, loses == 0 && gets >= both, both >= gets};
                    SoapTreaty x = new SoapTreaty();
                    String basin = "P30 rests(" + both + ", " + loses + ", " + gets + ")";
                    int number = 0;
                    for (int pair = 0; pair < 4; pair++) {
                        if (rest[pair]) {
                            CHECK.due(basin + ", the least first", basin(x, both, loses, gets, number), pair);
                            number++;
                        }
                    }
                    CHECK.due(basin + ", how many", basin(x, both, loses, gets, -1), number);
                    CHECK.due(basin + ", none such", basin(x, both, loses, gets, number), THROWN);
                    CHECK.due(basin + ", none such", basin(x, both, loses, gets, -2), THROWN);
                }
            }
        }
    }

    private static void restsOthers() {
        SoapTreaty x = told("");
        String before = Check.all(x);
        for (int far : new int[] {-1, 10, 11, Integer.MIN_VALUE, Integer.MAX_VALUE}) {
            for (int what = -1; what <= 0; what++) {
                CHECK.due("P30 both " + far + ", what " + what, basin(x, far, 0, 0, what), THROWN);
                CHECK.due("P30 loses " + far + ", what " + what, basin(x, 0, far, 0, what), THROWN);
                CHECK.due("P30 gets " + far + ", what " + what, basin(x, 0, 0, far, what), THROWN);
            }
        }
        for (int what : new int[] {-2, -3, 4, 5, Integer.MIN_VALUE, Integer.MAX_VALUE}) {
            CHECK.due("P30 what " + what, basin(x, 0, 0, 0, what), THROWN);
        }
        CHECK.due("P30 the last of four", basin(x, 0, 0, 0, 3), 3);
        CHECK.stays("P30 nothing changes", x, before);
    }

    // ---- promise 31

    private static void reignsRange() {
        SoapTreaty x = told("");
        for (int seed : new int[] {-1, 10000, Integer.MIN_VALUE, Integer.MAX_VALUE}) {
            CHECK.due("P31 no seed " + seed, x.reigns(seed, 1, 0), -1);
        }
        for (int weeks : new int[] {0, -1, 100, 101, Integer.MIN_VALUE, Integer.MAX_VALUE}) {
            CHECK.due("P31 not 1 to 99 weeks: " + weeks, x.reigns(0, weeks, 0), -1);
        }
        for (int what : new int[] {-1, 3, 4, Integer.MIN_VALUE, Integer.MAX_VALUE}) {
            CHECK.due("P31 no what " + what, x.reigns(0, 1, what), -1);
        }
        String before = Check.all(x);
        for (int what = 0; what <= 2; what++) {
            CHECK.due("P31 the first seed, one week", x.reigns(0, 1, what) >= 0, true);
            CHECK.due("P31 the last seed, 99 weeks", x.reigns(9999, 99, what) >= 0, true);
        }
        CHECK.stays("P31 all is as ahead then", x, before);
    }

    private static long g;

    private static int draw(int below) {
        g = (g * 1103515245L + 12345L) % 2147483648L;
        return (int) (g / 65536L % below);
    }

    /** The same reign played by hand on another object must end as the one that is asked for. */
    private static void reign(String text, int seed, int weeks, boolean busy) {
        SoapTreaty asked = Check.told(text);
        SoapTreaty played = Check.told(text);
        for (SoapTreaty x : busy ? new SoapTreaty[] {asked, played} : new SoapTreaty[] {}) {
            x.week();
            x.hair(0);
            x.press(1);
        }
        g = seed;
        for (int week = 0; week < weeks; week++) {
            int cake = draw(played.count(1));
            int deed = draw(6);
            if (deed == 0) {
                played.hair(cake);
            } else if (deed == 1) {
                played.pick(cake);
            } else if (deed == 2) {
                played.gift(cake, draw(5));
            } else if (deed == 3) {
                played.press(cake);
            }
            played.week();
        }
        String call = "P31 reigns by " + seed + " of " + weeks + " weeks, what ";
        CHECK.due(call + 0, asked.reigns(seed, weeks, 0), played.count(4));
        CHECK.due(call + 1, asked.reigns(seed, weeks, 1), played.count(8));
        CHECK.due(call + 2, asked.reigns(seed, weeks, 2), played.count(5));
    }

    private static void reignsByHand() {
        String slow = FIVE + SEVEN + "wears left*2<used;";
        String three = FIVE + "cake ca from p to n thick 40 hard 5;cake cb from n to p thick 40 hard 5;cake cc from q to p thick 30 hard 2;";
        String one = FIVE + "cake ca from p to q thick 40 hard 5;wears 1;";
        for (int seed : new int[] {0, 1, 2, 3, 41, 500, 1234, 4321, 7777, 9998, 9999}) {
            for (int weeks : new int[] {1, 2, 3, 7, 20, 98, 99}) {
                reign(FIVE + SEVEN, seed, weeks, false);
                reign(slow, seed, weeks, true);
                reign(three, seed, weeks, seed % 2 == 0);
                reign(one, seed, weeks, false);
            }
        }
    }

    private static void reignsWithoutCakes() {
        SoapTreaty x = Check.told(FIVE);
        CHECK.row("P31 no cake, what", what -> x.reigns(0, 99, what), -1, -1, 0, 0, 0, -1);
    }
}
