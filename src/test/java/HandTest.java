/** Promises 5 to 13, 15, 32 and 33: what is done by hand, how it is then, undone, marked. */
final class HandTest {
    private static final Check CHECK = new Check();
    private static final String FOUR =
        "power g plain water 5;power b naval water 8;power h dry water 3;power a carver water 9;";

    public static void main(String[] args) {
        powers();
        cakes();
        washing();
        hairsAndPicks();
        gifts();
        presses();
        weeks();
        undone();
        earnest();
        marks();
        counts();
        CHECK.end("HandTest");
    }

    private static void powers() {
        SoapTreaty x = Check.told(FOUR + "cake c from g to b thick 3 hard 9;cake d from b to g thick 2 hard 9;"
            + "cake e from h to g thick 1 hard 9;cake f from g to h thick 4 hard 9;");
        int[] kinds = {0, 1, 2, 3};
        int[] waters = {5, 8, 3, 9};
        for (int power = 0; power < 4; power++) {
            CHECK.due("kind of " + power, x.power(power, 0), kinds[power]);
            CHECK.due("water of " + power, x.power(power, 1), waters[power]);
        }
        CHECK.due("cakes of g", x.power(0, 2), 6);
        CHECK.due("cakes of a", x.power(3, 2), 0);
        CHECK.due("slivers of g", x.power(0, 3), 2);
        CHECK.due("slivers of b", x.power(1, 3), 0);
        x.wash(2);
        CHECK.due("slivers that are there", x.power(0, 3), 1);
        CHECK.due("cakes that are gone are theirs", x.power(0, 2), 6);
        x.hair(0);
        x.hair(3);
        CHECK.due("foes of g", x.power(0, 4), 6);
        CHECK.due("foes of h", x.power(2, 4), 1);
        CHECK.due("foes of a", x.power(3, 4), 0);
        CHECK.due("what 6", x.power(0, 6), -1);
        CHECK.due("what -1", x.power(0, -1), -1);
        CHECK.due("power 4", x.power(4, 0), -1);
        CHECK.due("power -1", x.power(-1, 0), -1);
        CHECK.due("power far", x.power(Integer.MAX_VALUE, Integer.MIN_VALUE), -1);
        allies();
    }

    private static void allies() {
        SoapTreaty x = Check.told("power p plain water 1;power q plain water 1;power r plain water 1;power s dry water 1;"
            + "cake a from p to q thick 9 hard 1;cake b from q to p thick 9 hard 1;"
            + "cake c from q to r thick 9 hard 1;cake d from r to q thick 9 hard 1;cake e from p to s thick 9 hard 1;");
        CHECK.due("no allies", x.power(0, 5), 0);
        CHECK.due("blocs of one", x.blocs(), 4);
        x.week();
        CHECK.due("allies of p", x.power(0, 5), 6);
        CHECK.due("allies of q", x.power(1, 5), 5);
        CHECK.due("allies of r", x.power(2, 5), 3);
        CHECK.due("allies of s", x.power(3, 5), 0);
        CHECK.due("blocs", x.blocs(), 2);
        x.hair(0);
        CHECK.due("allies of p at war", x.power(0, 5), 0);
        CHECK.due("blocs at war", x.blocs(), 3);
    }

    private static void cakes() {
        SoapTreaty x = Check.told(FOUR + "cake c from g to b thick 10 hard 4;cake d from b to g thick 6 hard 7;"
            + "pebble c 9;pebble d 39;");
        int[] due = {0, 1, 10, 0, 0, 0, 4};
        for (int what = 0; what < due.length; what++) {
            CHECK.due("cake(0, " + what + ")", x.cake(0, what), due[what]);
        }
        CHECK.due("found from the beginning", x.cake(1, 5), 1);
        x.wash(0);
        x.hair(0);
        x.gift(0, 2);
        int[] then = {0, 2, 9, 1, 1, 1, 4};
        for (int what = 0; what < then.length; what++) {
            CHECK.due("then cake(0, " + what + ")", x.cake(0, what), then[what]);
        }
        CHECK.due("cake(0, 7)", x.cake(0, 7), -2);
        CHECK.due("cake(0, -1)", x.cake(0, -1), -2);
        CHECK.due("cake(2, 0)", x.cake(2, 0), -2);
        CHECK.due("cake(-1, 0)", x.cake(-1, 0), -2);
    }

    private static void washing() {
        SoapTreaty x = Check.told(FOUR + "cake c from b to g thick 10 hard 4;cake d from g to b thick 10 hard 9;"
            + "cake e from g to h thick 10 hard 2;cake f from g to a thick 10 hard 0;cake i from g to b thick 10 hard 7;"
            + "cake j from b to g thick 1 hard 4;");
        CHECK.due("a plain one's", x.wash(0), 8);
        CHECK.due("a naval one's, half of 1", x.wash(1), 10);
        CHECK.due("a naval one's, half of 2", x.wash(4), 9);
        CHECK.due("a dry one's, by hand", x.wash(2), 8);
        CHECK.due("a carver's", x.wash(3), 10);
        CHECK.due("a carver's is used", x.cake(3, 3), 1);
        CHECK.due("0 at least", x.wash(5), 0);
        CHECK.due("one that is gone", x.wash(5), -1);
        CHECK.due("used stays", x.cake(5, 3), 1);
        x.hair(0);
        CHECK.due("with a hair", x.wash(0), -1);
        CHECK.due("wash(6)", x.wash(6), -1);
        CHECK.due("wash(-1)", x.wash(-1), -1);
        SoapTreaty y = Check.told(FOUR + "cake c from g to b thick 40 hard 4;wears 15;");
        CHECK.due("half of 9", y.wash(0), 36);
        SoapTreaty z = Check.told(FOUR + "cake c from g to b thick 40 hard 4;wears 0-4;");
        CHECK.due("half of none", z.wash(0), 40);
    }

    private static void hairsAndPicks() {
        SoapTreaty x = Check.told(FOUR + "cake c from g to b thick 2 hard 4;cake d from b to g thick 2 hard 4;");
        CHECK.due("no hair to pick", x.pick(0), false);
        CHECK.due("a hair", x.hair(0), true);
        CHECK.due("a second hair", x.hair(0), false);
        CHECK.due("a war", x.count(7), 1);
        x.hair(1);
        CHECK.due("the same two", x.count(7), 1);
        CHECK.due("picked", x.pick(1), true);
        CHECK.due("still at war", x.count(7), 1);
        CHECK.due("picked", x.pick(0), true);
        CHECK.due("peace", x.count(7), 0);
        x.wash(1);
        CHECK.due("gone", x.count(6), 1);
        CHECK.due("a hair in one that is gone", x.hair(1), false);
        x.wash(0);
        x.hair(0);
        x.press(0);
        CHECK.due("no war about one that is gone", x.count(7), 0);
        CHECK.due("its hair is in it", x.cake(0, 4), 1);
        CHECK.due("picked, there or not", x.pick(0), true);
        for (int cake : new int[] {-1, 2, 31, 32, Integer.MIN_VALUE, Integer.MAX_VALUE}) {
            CHECK.due("hair(" + cake + ")", x.hair(cake), false);
            CHECK.due("pick(" + cake + ")", x.pick(cake), false);
        }
    }

    private static void gifts() {
        SoapTreaty x = Check.told(FOUR + "cake c from g to b thick 2 hard 4;cake d from b to g thick 2 hard 4;");
        CHECK.due("to whose it is", x.gift(0, 1), false);
        CHECK.due("to who sent it", x.gift(0, 0), true);
        CHECK.due("it is theirs", x.cake(0, 1), 0);
        x.hair(0);
        CHECK.due("no war within one", x.count(7), 0);
        CHECK.due("no hair to be picked", x.peace(), 0);
        CHECK.due("with a hair", x.gift(0, 3), true);
        CHECK.due("war by a gift", x.power(3, 4), 1);
        x.wash(1);
        CHECK.due("one that is gone", x.gift(1, 2), false);
        CHECK.due("gift(0, 4)", x.gift(0, 4), false);
        CHECK.due("gift(0, -1)", x.gift(0, -1), false);
        CHECK.due("gift(2, 0)", x.gift(2, 0), false);
        CHECK.due("gift(-1, 0)", x.gift(-1, 0), false);
    }

    private static void presses() {
        SoapTreaty x = Check.told(FOUR + "cake c from g to b thick 20 hard 4;cake d from b to g thick 12 hard 4;");
        CHECK.due("not washed with", x.press(0), -1);
        x.wash(0);
        x.wash(1);
        x.hair(1);
        CHECK.due("pressed", x.press(0), 19);
        CHECK.due("pressed with a hair", x.press(1), 29);
        CHECK.due("the lump", x.count(4), 29);
        CHECK.due("all is gone", x.count(6), 0);
        CHECK.due("pressed again", x.press(0), -1);
        CHECK.due("press(2)", x.press(2), -1);
        CHECK.due("press(-1)", x.press(-1), -1);
    }

    private static void weeks() {
        SoapTreaty x = Check.told(FOUR + "cake c from b to g thick 2 hard 4;cake d from g to b thick 1 hard 7;"
            + "cake e from g to h thick 1 hard 2;cake f from g to a thick 1 hard 0;cake i from b to g thick 1 hard 7;"
            + "cake j from b to g thick 1 hard 4;");
        x.hair(4);
        CHECK.due("gone by it", x.week(), 35);
        CHECK.due("the week", x.count(3), 1);
        CHECK.due("there", x.count(6), 28);
        int[] used = {1, 1, 0, 1, 0, 1};
        for (int cake = 0; cake < used.length; cake++) {
            CHECK.due("used " + cake, x.cake(cake, 3), used[cake]);
        }
        CHECK.due("no more gone", x.week(), 0);
        CHECK.due("what is gone is not washed with", x.cake(0, 3), 1);
        CHECK.due("the week", x.count(3), 2);
    }

    private static void undone() {
        SoapTreaty x = Check.told(FOUR + "cake c from b to g thick 9 hard 4;cake d from g to b thick 9 hard 7;");
        x.wash(0);
        x.hair(0);
        x.pick(0);
        x.gift(0, 2);
        x.press(0);
        x.week();
        x.hair(5);
        CHECK.due("what can be undone", x.count(11), 6);
        CHECK.due("undo week", x.undo(), true);
        CHECK.due("week 0", x.count(3), 0);
        CHECK.due("not used", x.cake(1, 3), 0);
        CHECK.due("undo press", x.undo(), true);
        CHECK.due("no lump", x.count(4), 0);
        CHECK.due("thick again", x.cake(0, 2), 7);
        CHECK.due("undo gift", x.undo(), true);
        CHECK.due("whose it was", x.cake(0, 1), 0);
        CHECK.due("undo pick", x.undo(), true);
        CHECK.due("the hair again", x.cake(0, 4), 1);
        CHECK.due("undo hair", x.undo(), true);
        CHECK.due("no hair", x.cake(0, 4), 0);
        CHECK.due("undo wash", x.undo(), true);
        CHECK.due("as told", x.cake(0, 2), 9);
        CHECK.due("never washed", x.cake(0, 3), 0);
        CHECK.due("nothing more", x.undo(), false);
        for (int i = 0; i < 20; i++) {
            x.week();
        }
        CHECK.due("the last 16", x.count(11), 16);
        for (int i = 0; i < 16; i++) {
            CHECK.due("undo " + i, x.undo(), true);
        }
        CHECK.due("no 17th", x.undo(), false);
        CHECK.due("week 4", x.count(3), 4);
        x.see(0, 1, 1);
        Check.years(x, "week;");
        x.week();
        x.undo();
        CHECK.due("what is seen is not undone", x.count(10), 1);
        CHECK.due("years are not undone", x.count(9), 1);
    }

    private static void earnest() {
        SoapTreaty x = Check.told(FOUR + "cake c from b to g thick 2 hard 4;cake d from g to b thick 9 hard 7;"
            + "cake e from g to b thick 9 hard 7;");
        CHECK.due("not washed", x.earnest(0, 1), 0);
        x.wash(0);
        CHECK.due("one washed", x.earnest(0, 1), 0);
        x.wash(1);
        CHECK.due("both washed, one is gone", x.earnest(0, 1), 1);
        CHECK.due("the other way", x.earnest(1, 0), 1);
        CHECK.due("pairs", x.count(8), 1);
        x.hair(2);
        CHECK.due("at war", x.earnest(0, 1), 0);
        x.gift(2, 3);
        CHECK.due("no more at war", x.earnest(0, 1), 1);
        x.gift(1, 2);
        CHECK.due("given away", x.earnest(0, 1), 0);
        CHECK.due("the same", x.earnest(1, 1), -1);
        CHECK.due("earnest(0, 4)", x.earnest(0, 4), -1);
        CHECK.due("earnest(4, 0)", x.earnest(4, 0), -1);
        CHECK.due("earnest(-1, 0)", x.earnest(-1, 0), -1);
    }

    private static void marks() {
        SoapTreaty x = Check.told(FOUR + "cake c from b to g thick 9 hard 4;");
        CHECK.due("nothing is on it", x.mark(0, true), false);
        x.wash(0);
        x.hair(0);
        x.see(0, 2, 3);
        Check.years(x, "week;week;");
        CHECK.due("laid", x.mark(3, false), true);
        CHECK.due("laying keeps what can be undone", x.count(11), 2);
        x.pick(0);
        x.gift(0, 1);
        x.week();
        x.press(0);
        x.see(0, 2, 4);
        Check.years(x, "");
        Check.feed(x, "week");
        CHECK.due("gone back to", x.mark(3, true), true);
        int[] due = {4, 1, 2, 0, 0, 7, 1, 1, 0, 2, 1, 0, 4};
        for (int what = 0; what < due.length; what++) {
            CHECK.due("back, count(" + what + ")", x.count(what), due[what]);
        }
        CHECK.due("nothing can be undone", x.undo(), false);
        CHECK.due("whose it was", x.cake(0, 1), 0);
        x.pick(0);
        x.wash(0);
        CHECK.due("a second time", x.mark(3, true), true);
        CHECK.due("as it was", x.cake(0, 2), 7);
        x.week();
        x.mark(3, false);
        CHECK.due("laid anew", x.mark(3, true), true);
        CHECK.due("week 1", x.count(3), 1);
        CHECK.due("mark(4)", x.mark(4, false), false);
        CHECK.due("mark(-1)", x.mark(-1, false), false);
        CHECK.due("mark(4) back", x.mark(4, true), false);
        CHECK.due("mark(35) back", x.mark(35, true), false);
        CHECK.due("another mark", x.mark(2, true), false);
    }

    private static void counts() {
        SoapTreaty x = Check.told(FOUR + "cake c from b to g thick 9 hard 4;cake d from g to b thick 6 hard 7;"
            + "cake e from a to h thick 1 hard 0;sliver 7;");
        x.week();
        x.wash(2);
        x.hair(0);
        x.press(1);
        x.see(0, 1, 1);
        Check.years(x, "wash c;");
        Check.feed(x, "power");
        int[] due = {4, 3, 7, 1, 5, 7, 1, 1, 0, 1, 1, 4, 5, -1};
        for (int what = 0; what < due.length; what++) {
            CHECK.due("count(" + what + ")", x.count(what), due[what]);
        }
        CHECK.due("count(-1)", x.count(-1), -1);
        CHECK.due("count(MIN)", x.count(Integer.MIN_VALUE), -1);
    }
}
