import java.util.NoSuchElementException;

/** Promises 26 to 31: what is seen, sets, chances, basins, reigns. */
final class SightTest {
    private static final Check CHECK = new Check();
    private static final int THROWN = -1000;
    private static final String FOUR = "power p plain water 4;power n naval water 9;power d dry water 9;"
        + "power c carver water 9;";
    private static final String CAKES = "cake a from n to p thick 9 hard 5;cake b from p to n thick 9 hard 5;"
        + "cake e from p to d thick 9 hard 5;cake f from p to c thick 9 hard 5;";

    public static void main(String[] args) {
        seeing();
        sets();
        asking();
        chances();
        basins();
        reigns();
        CHECK.end("SightTest");
    }

    private static void seeing() {
        SoapTreaty x = Check.told(FOUR + CAKES);
        CHECK.due("see(4, 1, 1)", x.see(4, 1, 1), false);
        CHECK.due("see(-1, 1, 1)", x.see(-1, 1, 1), false);
        CHECK.due("see(0, 0, 1)", x.see(0, 0, 1), false);
        CHECK.due("see(0, 21, 1)", x.see(0, 21, 1), false);
        CHECK.due("see(0, 1, -1)", x.see(0, 1, -1), false);
        CHECK.due("see(0, 1, 41)", x.see(0, 1, 41), false);
        CHECK.due("none seen", x.count(10), 0);
        CHECK.due("see(0, 1, 40)", x.see(0, 1, 40), true);
        CHECK.due("see(3, 20, 0)", x.see(3, 20, 0), true);
        for (int i = 2; i < 8; i++) {
            CHECK.due("seen " + i, x.see(0, 1, 40), true);
        }
        CHECK.due("8 there are", x.see(0, 1, 40), false);
        CHECK.due("count(10)", x.count(10), 8);
    }

    private static void setsAs(String when, SoapTreaty x, int number, int all, int some) {
        CHECK.due(when + ": sets(0)", x.sets(0), number);
        CHECK.due(when + ": sets(1)", x.sets(1), all);
        CHECK.due(when + ": sets(2)", x.sets(2), some);
    }

    private static void sets() {
        SoapTreaty x = Check.told(FOUR + CAKES);
        setsAs("nothing seen", x, 8, 0, 11);
        x.see(0, 3, 6);
        setsAs("p washes", x, 4, 0, 10);
        x.see(1, 4, 9);
        setsAs("n is dry", x, 2, 2, 10);
        x.see(3, 20, 9);
        setsAs("of a carver nothing is known", x, 2, 2, 10);
        x.see(2, 1, 9);
        setsAs("of a dry one, too", x, 2, 2, 10);
        x.mark(0, false);
        x.see(2, 1, 8);
        setsAs("no set", x, 0, -1, -1);
        x.mark(0, true);
        setsAs("gone back", x, 2, 2, 10);
        CHECK.due("sets(3)", x.sets(3), -1);
        CHECK.due("sets(-1)", x.sets(-1), -1);
        SoapTreaty marked = Check.told(FOUR + CAKES);
        marked.mark(0, false);
        marked.see(0, 3, 6);
        marked.mark(1, false);
        marked.mark(0, true);
        marked.see(1, 5, 4);
        marked.mark(2, false);
        setsAs("n washes", marked, 4, 0, 9);
        marked.mark(1, true);
        setsAs("p washes, as it was seen", marked, 4, 0, 10);
        marked.mark(2, true);
        setsAs("n washes, as it was seen", marked, 4, 0, 9);
        marked.mark(0, true);
        marked.see(0, 5, 9);
        marked.mark(1, true);
        setsAs("behind 3 weeks, not 5", marked, 4, 0, 10);
        SoapTreaty hair = Check.told(FOUR + CAKES);
        hair.hair(0);
        hair.see(0, 5, 9);
        setsAs("a hair hides who washes", hair, 8, 0, 11);
        setsAs("nobody", new SoapTreaty(), 1, 0, 0);
        SoapTreaty five = Check.told("power p plain water 4;power q plain water 4;power r plain water 4;"
            + "power s plain water 4;power t plain water 4;cake a from p to t thick 2 hard 9;");
        setsAs("32 sets", five, 32, 0, 31);
        five.see(0, 2, 2);
        setsAs("t is dry", five, 16, 16, 31);
        SoapTreaty later = Check.told(FOUR + CAKES);
        later.see(0, 1, 8);
        setsAs("8 a week from now", later, 4, 0, 10);
        later.week();
        setsAs("it is 8 now", later, 4, 1, 11);
    }

    private static void asking() {
        SoapTreaty x = Check.told(FOUR + CAKES);
        CHECK.due("of equal ones the first", x.ask(1), 0);
        x.see(0, 1, 8);
        CHECK.due("what is not known", x.ask(1), 1);
        x.see(1, 1, 9);
        x.see(1, 20, 0);
        CHECK.due("no set", x.ask(1), -1);
        CHECK.due("ask(0)", x.ask(0), -1);
        CHECK.due("ask(21)", x.ask(21), -1);
        CHECK.due("ask(-1)", x.ask(-1), -1);
        SoapTreaty none = Check.told(FOUR + "cake e from p to d thick 9 hard 5;cake f from p to c thick 9 hard 5;");
        CHECK.due("none parts them", none.ask(20), -1);
        SoapTreaty late = Check.told(FOUR + "cake a from n to p thick 9 hard 5;wears 2<used;");
        CHECK.due("too early", late.ask(3), -1);
        CHECK.due("late enough", late.ask(4), 0);
        CHECK.due("nothing told", new SoapTreaty().ask(20), -1);
    }

    private static void chances() {
        SoapTreaty x = Check.told(FOUR + CAKES + "pebble a 7;pebble e 8;pebble f 9;");
        CHECK.due("one week of two", x.chance(0, 1, 5), 0);
        CHECK.due("two of two", x.chance(0, 2, 5), 250000);
        CHECK.due("two of three", x.chance(0, 3, 5), 500000);
        CHECK.due("two of six by 3", x.chance(0, 6, 3), 579825);
        CHECK.due("by 0", x.chance(0, 6, 0), 0);
        CHECK.due("by 10", x.chance(0, 2, 10), 1000000);
        CHECK.due("never", x.chance(2, 6, 10), 0);
        CHECK.due("found already", x.chance(3, 1, 0), 1000000);
        CHECK.due("no pebble", x.chance(1, 3, 5), -1);
        CHECK.due("chance(4, 3, 5)", x.chance(4, 3, 5), -1);
        CHECK.due("chance(-1, 3, 5)", x.chance(-1, 3, 5), -1);
        CHECK.due("chance(0, 0, 5)", x.chance(0, 0, 5), -1);
        CHECK.due("chance(0, 7, 5)", x.chance(0, 7, 5), -1);
        CHECK.due("chance(0, 3, -1)", x.chance(0, 3, -1), -1);
        CHECK.due("chance(0, 3, 11)", x.chance(0, 3, 11), -1);
    }

    private static void basin(int both, int loses, int gets, int what, int due) {
        int got = THROWN;
        try {
            got = new SoapTreaty().rests(both, loses, gets, what);
        } catch (NoSuchElementException e) {
            got = THROWN;
        }
        CHECK.due("rests(" + both + ", " + loses + ", " + gets + ", " + what + ")", got, due);
    }

    private static void basins() {
        basin(4, 3, 6, -1, 1);
        basin(4, 3, 6, 0, 0);
        basin(4, 3, 6, 1, THROWN);
        basin(6, 3, 4, -1, 2);
        basin(6, 3, 4, 0, 0);
        basin(6, 3, 4, 1, 3);
        basin(6, 3, 4, 2, THROWN);
        basin(4, 0, 6, -1, 3);
        basin(4, 0, 6, 0, 0);
        basin(4, 0, 6, 1, 1);
        basin(4, 0, 6, 2, 2);
        basin(0, 0, 0, -1, 4);
        basin(0, 0, 0, 3, 3);
        basin(0, 0, 0, 4, THROWN);
        basin(0, 0, 0, -2, THROWN);
        basin(9, 9, 9, -1, 2);
        basin(10, 0, 0, -1, THROWN);
        basin(0, 10, 0, -1, THROWN);
        basin(0, 0, 10, -1, THROWN);
        basin(-1, 0, 0, -1, THROWN);
        basin(0, -1, 0, -1, THROWN);
        basin(0, 0, -1, -1, THROWN);
    }

    private static void reigns() {
        SoapTreaty none = new SoapTreaty();
        for (int what = 0; what < 3; what++) {
            CHECK.due("nothing told, what " + what, none.reigns(1, 99, what), 0);
        }
        SoapTreaty x = Check.told(FOUR + CAKES);
        // seed 0: g is 12345 (draw 0 below 4: cake a), then 1406932606 (21468 below 6: 0, a hair)
        CHECK.due("a hair, then the week", x.reigns(0, 1, 2), 35);
        CHECK.due("no lump", x.reigns(0, 1, 0), 0);
        CHECK.due("no pairs", x.reigns(0, 1, 1), 0);
        Model model = new Model();
        String text = FOUR + CAKES;
        for (int at = 0; at < text.length(); at += 24) {
            model.feed(Check.eight(text, at), Check.eight(text, at + 8), Check.eight(text, at + 16));
        }
        CHECK.due("the model's congress", model.congress(), 0);
        for (int seed = 0; seed < 10000; seed += 37) {
            int weeks = 1 + seed % 99;
            SoapTreaty fresh = Check.told(text);
            for (int what = 0; what < 3; what++) {
                CHECK.due("reigns(" + seed + ", " + weeks + ", " + what + ")", fresh.reigns(seed, weeks, what), model.reigns(seed, weeks, what));
            }
        }
        CHECK.due("reigns(-1, 1, 0)", x.reigns(-1, 1, 0), -1);
        CHECK.due("reigns(10000, 1, 0)", x.reigns(10000, 1, 0), -1);
        CHECK.due("reigns(9999, 99, 0)", x.reigns(9999, 99, 0), model.reigns(9999, 99, 0));
        CHECK.due("reigns(0, 0, 0)", x.reigns(0, 0, 0), -1);
        CHECK.due("reigns(0, 100, 0)", x.reigns(0, 100, 0), -1);
        CHECK.due("reigns(0, 1, 3)", x.reigns(0, 1, 3), -1);
        CHECK.due("reigns(0, 1, -1)", x.reigns(0, 1, -1), -1);
    }
}
