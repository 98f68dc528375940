/** Promises 14 and 16 to 25: years judged, and what the weeks ahead bring. */
final class AheadTest {
    private static final Check CHECK = new Check();
    private static final String FIVE = "power p plain water 4;power n naval water 9;power d dry water 9;"
        + "power c carver water 9;power q plain water 9;";

    public static void main(String[] args) {
        judged();
        gone();
        worn();
        last();
        best();
        pressing();
        peace();
        pacts();
        devoted();
        nothingChanges();
        CHECK.end("AheadTest");
    }

    private static void judgedAs(SoapTreaty x, String years, int cannot, int found, int lump) {
        CHECK.due("years " + years, Check.years(x, years), 0);
        CHECK.due("the first that can't be: " + years, x.judged(0), cannot);
        CHECK.due("a pebble: " + years, x.judged(1), found);
        CHECK.due("the lump: " + years, x.judged(2), lump);
    }

    private static void judged() {
        SoapTreaty x = Check.told(FIVE + "cake a from n to p thick 9 hard 5;cake b from p to n thick 9 hard 5;pebble a 7;");
        judgedAs(x, "", -1, -1, 0);
        judgedAs(x, "wash a;wash a;press a;", -1, 1, 7);
        judgedAs(x, "wash a;press a;press a;press b;", 2, 1, 8);
        judgedAs(x, "press a;", 0, -1, 0);
        judgedAs(x, "week;week;week;", -1, 1, 0);
        judgedAs(x, "gift a p;", 0, -1, 0);
        judgedAs(x, "gift a q;wash a;", -1, 1, 0);
        judgedAs(x, "pick a;hair a;pick a;hair a;wash a;week;press a;", 0, -1, 0);
        judgedAs(x, "gift a d;week;wash a;", -1, 2, 0);
        x.wash(0);
        x.press(0);
        judgedAs(x, "wash a;press a;", -1, 1, 8);
        CHECK.due("judged(3)", x.judged(3), -2);
        CHECK.due("judged(-1)", x.judged(-1), -2);
        SoapTreaty y = Check.told(FIVE + "cake a from n to p thick 9 hard 5;pebble a 9;");
        judgedAs(y, "", -1, -1, 0);
        judgedAs(y, "press a;week;", 0, 0, 0);
    }

    private static final String CAKES = "cake a from n to p thick 9 hard 5;cake b from p to n thick 9 hard 5;"
        + "cake e from p to d thick 9 hard 5;cake f from p to c thick 9 hard 5;cake g from p to q thick 9 hard 5;";

    private static void gone() {
        SoapTreaty x = Check.told(FIVE + CAKES);
        int[] due = {9, 9, -1, -1, 5, -1};
        for (int cake = 0; cake < due.length; cake++) {
            CHECK.due("gone(" + cake + ")", x.gone(cake), due[cake]);
        }
        CHECK.due("gone(-1)", x.gone(-1), -1);
        x.week();
        CHECK.due("a week later", x.gone(4), 4);
        x.hair(4);
        CHECK.due("with a hair", x.gone(4), -1);
        x.press(4);
        CHECK.due("gone already", x.gone(4), 0);
        SoapTreaty far = Check.told(FIVE + "cake a from n to p thick 1 hard 5;wears 97<used;");
        CHECK.due("99 weeks", far.gone(0), 99);
        SoapTreaty further = Check.told(FIVE + "cake a from n to p thick 1 hard 5;wears 98<used;");
        CHECK.due("100 weeks", further.gone(0), -1);
        further.week();
        CHECK.due("100 weeks, one behind", further.gone(0), 99);
    }

    private static void worn() {
        SoapTreaty x = Check.told(FIVE + CAKES + "pebble a 7;pebble e 8;pebble f 9;pebble g 0;");
        int[] due = {2, -1, -1, 0, 5, -1};
        for (int cake = 0; cake < due.length; cake++) {
            CHECK.due("worn(" + cake + ")", x.worn(cake), due[cake]);
        }
        CHECK.due("worn(-1)", x.worn(-1), -1);
        x.week();
        x.hair(0);
        CHECK.due("with a hair", x.worn(0), -1);
        x.press(0);
        CHECK.due("pressed", x.worn(0), 0);
        SoapTreaty far = Check.told(FIVE + "cake a from n to p thick 2 hard 5;pebble a 1;wears 97<used;");
        CHECK.due("99 weeks", far.worn(0), 99);
        SoapTreaty further = Check.told(FIVE + "cake a from n to p thick 2 hard 5;pebble a 1;wears 98<used;");
        CHECK.due("100 weeks", further.worn(0), -1);
    }

    private static void last() {
        SoapTreaty x = Check.told(FIVE + CAKES);
        CHECK.due("for ever, the first", x.last(), 2);
        x.gift(2, 4);
        CHECK.due("for ever", x.last(), 3);
        x.gift(3, 4);
        CHECK.due("of equal ones the first", x.last(), 0);
        x.wash(0);
        CHECK.due("the longest", x.last(), 1);
        x.hair(4);
        CHECK.due("a hair keeps it", x.last(), 4);
        SoapTreaty far = Check.told(FIVE + "cake a from n to p thick 1 hard 5;cake b from p to d thick 1 hard 5;wears 97<used;");
        CHECK.due("for ever is longer than 99", far.last(), 1);
        for (int cake = 0; cake < 5; cake++) {
            x.pick(cake);
            x.wash(cake);
            x.press(cake);
        }
        CHECK.due("none is there", x.last(), -1);
    }

    private static void best() {
        SoapTreaty x = Check.told(FIVE + CAKES);
        CHECK.due("best(0)", x.best(0), 4);
        CHECK.due("whose it is, too", x.best(4), 4);
        CHECK.due("a dry one's", x.best(2), 4);
        CHECK.due("best(5)", x.best(5), -1);
        CHECK.due("best(-1)", x.best(-1), -1);
        x.hair(0);
        CHECK.due("with a hair", x.best(0), -1);
        x.wash(1);
        x.press(1);
        CHECK.due("not there", x.best(1), -1);
        SoapTreaty equal = Check.told(FIVE + "cake a from n to q thick 9 hard 3;");
        CHECK.due("of equal ones the first", equal.best(0), 0);
        SoapTreaty none = Check.told("power d dry water 1;power c carver water 9;cake a from d to c thick 1 hard 0;");
        CHECK.due("not at all", none.best(0), -1);
        SoapTreaty far = Check.told("power d dry water 1;power p plain water 9;cake a from p to d thick 1 hard 0;wears 97<used;");
        CHECK.due("by 99", far.best(0), 1);
        SoapTreaty further = Check.told("power d dry water 1;power p plain water 9;cake a from p to d thick 1 hard 0;wears 98<used;");
        CHECK.due("not by 99", further.best(0), -1);
    }

    private static void pressing() {
        SoapTreaty x = Check.told(FIVE + "cake a from n to p thick 5 hard 9;cake b from n to p thick 7 hard 9;"
            + "cake e from n to p thick 7 hard 9;cake f from n to p thick 9 hard 9;");
        CHECK.due("not washed with", x.pressing(1), -1);
        for (int cake = 0; cake < 3; cake++) {
            x.wash(cake);
        }
        CHECK.due("pressing(4)", x.pressing(4), 1);
        CHECK.due("of equal ones the least", x.pressing(5), 2);
        CHECK.due("two", x.pressing(7), 3);
        CHECK.due("two, the least set", x.pressing(10), 3);
        CHECK.due("two thick ones", x.pressing(11), 6);
        CHECK.due("three", x.pressing(13), 7);
        CHECK.due("all", x.pressing(16), 7);
        CHECK.due("by none", x.pressing(17), -1);
        x.press(1);
        CHECK.due("it is so thick already", x.pressing(6), 0);
        CHECK.due("one more", x.pressing(7), 1);
        CHECK.due("pressing(0)", x.pressing(0), -1);
        CHECK.due("pressing(-1)", x.pressing(-1), -1);
        CHECK.due("pressing(201)", x.pressing(201), -1);
        SoapTreaty thick = Check.told(FIVE + "cake a from n to c thick 40 hard 9;cake b from n to c thick 40 hard 9;"
            + "cake e from n to c thick 40 hard 9;cake f from n to c thick 40 hard 9;cake g from n to c thick 40 hard 9;"
            + "cake h from n to c thick 40 hard 9;cake i from n to c thick 40 hard 9;");
        thick.week();
        CHECK.due("pressing(200)", thick.pressing(200), 31);
        for (int cake = 0; cake < 7; cake++) {
            thick.press(cake);
        }
        CHECK.due("280, pressing(200)", thick.pressing(200), 0);
        CHECK.due("280, pressing(201)", thick.pressing(201), -1);
    }

    private static void peace() {
        SoapTreaty x = Check.told(FIVE + CAKES);
        CHECK.due("peace", x.peace(), 0);
        x.hair(0);
        x.hair(1);
        x.hair(4);
        CHECK.due("all hairs", x.peace(), 19);
        x.gift(4, 0);
        CHECK.due("not of one that came back", x.peace(), 3);
        x.pick(0);
        x.wash(0);
        x.hair(0);
        x.press(0);
        CHECK.due("not of one that is gone", x.peace(), 2);
    }

    private static void pacts() {
        SoapTreaty x = Check.told(FIVE + CAKES + "cake h from q to p thick 1 hard 0;cake i from d to p thick 9 hard 0;");
        CHECK.due("now", x.pacts(0), 0);
        CHECK.due("behind one", x.pacts(1), 2);
        CHECK.due("behind 60", x.pacts(60), 2);
        CHECK.due("pacts(61)", x.pacts(61), -1);
        CHECK.due("pacts(-1)", x.pacts(-1), -1);
        CHECK.due("soonest", x.soonest(), 1);
        x.hair(4);
        CHECK.due("at war", x.pacts(5), 1);
        x.wash(0);
        x.wash(1);
        CHECK.due("now", x.pacts(0), 1);
        CHECK.due("no sooner", x.soonest(), 0);
        x.wash(2);
        x.wash(6);
        CHECK.due("a dry one by hand", x.pacts(0), 2);
        x.gift(4, 1);
        CHECK.due("blocs", x.blocs(), 4);
    }

    private static void devoted() {
        SoapTreaty x = Check.told(FIVE + CAKES);
        CHECK.due("nobody", x.devoted(), -1);
        SoapTreaty y = Check.told(FIVE + CAKES + "sliver 9;");
        CHECK.due("of equal ones the first", y.devoted(), 0);
        y.gift(0, 3);
        CHECK.due("the most", y.devoted(), 3);
        y.wash(0);
        y.press(0);
        CHECK.due("that are there", y.devoted(), 1);
    }

    /** What is asked is not done. */
    private static void nothingChanges() {
        SoapTreaty x = Check.told(FIVE + CAKES + "pebble a 7;");
        Check.years(x, "wash a;press a;week;");
        x.wash(4);
        int[] before = new int[13];
        for (int what = 0; what < before.length; what++) {
            before[what] = x.count(what);
        }
        x.judged(2);
        x.gone(0);
        x.worn(0);
        x.last();
        x.best(0);
        x.pressing(3);
        x.peace();
        x.pacts(60);
        x.soonest();
        x.blocs();
        x.devoted();
        x.sets(0);
        x.ask(20);
        x.chance(0, 6, 5);
        x.reigns(7, 99, 2);
        for (int what = 0; what < before.length; what++) {
            CHECK.due("unchanged count(" + what + ")", x.count(what), before[what]);
        }
        CHECK.due("unchanged cake", x.cake(0, 1), 0);
    }
}
