/** Promises 14 and 16 to 25: each boundary that the document names of years judged and of the weeks ahead. */
final class AheadEdgesTest {
    private static final Check CHECK = new Check();
    private static final int[] NO_CAKES = {-1, 7, 8, 31, 32, -32, Integer.MIN_VALUE, Integer.MAX_VALUE};
    /** Numbers 0 plain, 1 naval, 2 dry, 3 carver, 4 plain. */
    private static final String FIVE = "power p plain water 4;power n naval water 9;power d dry water 9;"
        + "power c carver water 9;power q plain water 9;";

    public static void main(String[] args) {
        judgedOthers();
        judgedCannot();
        judgedFound();
        judgedLump();
        judgedApart();
        gone();
        goneFar();
        worn();
        wornFar();
        last();
        lastFar();
        best();
        bestFar();
        pressingRange();
        pressingFewest();
        pressingThose();
        peace();
        pacts();
        soonest();
        blocs();
        devoted();
        nothingIsDone();
        CHECK.end("AheadEdgesTest");
    }

    private static String cake(String name, String from, String to, int thick, int hard) {
        return "cake " + name + " from " + from + " to " + to + " thick " + thick + " hard " + hard + ";";
    }

    private static String seven(String from, String to, int thick) {
        StringBuilder text = new StringBuilder();
        for (char name = 'a'; name <= 'g'; name++) {
            text.append(cake("c" + name, from, to, thick, 5));
        }
        return text.toString();
    }

    // ---- promise 14

    private static SoapTreaty judging() {
        return Check.told(FIVE + cake("ca", "n", "p", 3, 5) + cake("cb", "p", "n", 9, 5) + cake("cc", "p", "q", 5, 5)
            + "pebble ca 1;pebble cc 0;wears 2;");
    }

    private static void judged(String sentence, String years, int cannot, int found, int lump) {
        SoapTreaty x = judging();
        CHECK.due("P4 years: " + years, Check.years(x, years), 0);
        CHECK.row("P14 " + sentence + ": " + years + " judged", x::judged, 0, cannot, found, lump);
    }

    private static void judgedOthers() {
        SoapTreaty x = judging();
        for (int what : new int[] {-1, 3, 4, 32, Integer.MIN_VALUE, Integer.MAX_VALUE}) {
            CHECK.due("P14 no what " + what, x.judged(what), -2);
        }
        judged("no line", "", -1, -1, 0);
    }

    private static void judgedCannot() {
        judged("a wash can", "wash cb;", -1, -1, 0);
        judged("no wash with a hair in it", "hair cb;wash cb;", 1, -1, 0);
        judged("no wash with one that is gone", "wash ca;wash ca;wash ca;", 2, 0, 0);
        judged("no hair where one is", "hair cb;hair cb;", 1, -1, 0);
        judged("no hair in one that is gone", "wash ca;wash ca;hair ca;", 2, 0, 0);
        judged("no pick where none is", "pick cb;", 0, -1, 0);
        judged("no second pick", "hair cb;pick cb;pick cb;", 2, -1, 0);
        judged("a pick, there or not", "wash cb;hair cb;press cb;pick cb;", -1, -1, 8);
        judged("no gift to whose it is", "gift cb n;", 0, -1, 0);
        judged("no gift of one that is gone", "wash ca;wash ca;gift ca n;", 2, 0, 0);
        judged("a gift to who sent it", "gift cb p;", -1, -1, 0);
        judged("no press of one not washed with", "press cb;", 0, -1, 0);
        judged("no press of one that is gone", "wash ca;press ca;press ca;", 2, 0, 1);
        judged("the first that can't be", "week;week;week;pick cb;gift cb n;", 3, 0, 0);
        judged("a week always can", "week;".repeat(40), -1, 0, 0);
        judged("the last of 40", "week;".repeat(39) + "pick ca;", 39, 0, 0);
        judged("a dry one's wash can", "gift cb d;wash cb;", -1, -1, 0);
    }

    private static void judgedFound() {
        judged("found behind the first", "wash ca;", -1, 0, 0);
        judged("thicker by two", "wash cb;", -1, -1, 0);
        judged("found by a week", "hair ca;week;pick ca;week;", -1, 3, 0);
        judged("found when gone", "hair ca;week;week;week;", -1, 3, 0);
        judged("a hair hinders", "hair ca;hair cc;week;week;week;week;", -1, -1, 0);
        judged("found when pressed", "hair ca;wash cc;press cc;", -1, 2, 3);
        judged("the first of two", "wash cc;wash cc;wash ca;wash cc;", -1, 2, 0);
        judged("found behind the last", "hair ca;hair cc;" + "week;".repeat(36) + "pick ca;wash ca;", -1, 39, 0);
        judged("not by a line left out", "hair ca;wash ca;", 1, -1, 0);
        SoapTreaty x = Check.told(FIVE + cake("ca", "n", "p", 9, 5) + "pebble ca 9;");
        Check.years(x, "pick ca;week;");
        CHECK.row("P14 found from the beginning, judged", x::judged, 0, 0, 0, 0);
        Check.years(x, "");
        CHECK.row("P14 found from the beginning, no line, judged", x::judged, 0, -1, -1, 0);
        SoapTreaty one = Check.told(FIVE + cake("ca", "n", "p", 9, 5) + "pebble ca 8;");
        Check.years(one, "pick ca;");
        CHECK.row("P14 thicker by one at the beginning, judged", one::judged, 0, 0, -1, 0);
    }

    private static void judgedLump() {
        judged("two pressed", "wash cb;wash cc;press cb;press cc;", -1, 3, 11);
        judged("a line that can't be is left out", "press cb;wash cb;press cb;press cb;", 0, -1, 8);
        judged("at last, not behind each", "wash cb;press cb;week;wash cc;", -1, 2, 8);
        judged("nothing is pressed", "wash cb;wash cc;", -1, -1, 0);
        SoapTreaty all = Check.told(FIVE + seven("n", "c", 40));
        Check.years(all, "week;press ca;press cb;press cc;press cd;press ce;press cf;press cg;");
        CHECK.row("P14 seven pressed, judged", all::judged, 0, -1, -1, 280);
    }

    private static void judgedApart() {
        SoapTreaty x = judging();
        Check.years(x, "wash ca;press ca;week;");
        x.week();
        x.press(1);
        x.hair(0);
        x.gift(2, 2);
        CHECK.row("P14 from the beginning, whatever was done, judged", x::judged, 0, -1, 0, 1);
        String before = Check.all(x);
        x.judged(0);
        x.judged(1);
        x.judged(2);
        CHECK.stays("P14 nothing of it is done", x, before);
        CHECK.due("P33 the years stay", x.count(9), 3);
    }

    // ---- promise 16

    private static void gone() {
        SoapTreaty x = Check.told(FIVE + cake("ca", "n", "p", 4, 5) + cake("cb", "p", "n", 4, 5) + cake("cc", "p", "d", 4, 5)
            + cake("cd", "p", "c", 4, 5) + cake("ce", "p", "q", 5, 5) + cake("cf", "p", "q", 6, 5) + "wears 2;");
        CHECK.row("P16 gone", x::gone, -1, -1, 2, 4, -1, -1, 3, 3, -1);
        for (int cake : NO_CAKES) {
            CHECK.due("P16 no cake " + cake, x.gone(cake), -1);
        }
        x.hair(0);
        CHECK.due("P16 a hair is in it", x.gone(0), -1);
        x.gift(2, 0);
        CHECK.due("P16 no more a dry one's", x.gone(2), 2);
        x.gift(3, 1);
        CHECK.due("P16 a naval one's", x.gone(3), 4);
        x.wash(1);
        x.press(1);
        CHECK.due("P16 0 thick already", x.gone(1), 0);
        x.hair(4);
        x.pick(4);
        CHECK.due("P16 the hair is out", x.gone(4), 3);
        x.gift(4, 2);
        CHECK.due("P16 a dry one's now", x.gone(4), -1);
        x.wash(4);
        x.wash(4);
        CHECK.due("P16 a dry one's, by hand", x.cake(4, 2), 1);
        x.wash(4);
        CHECK.due("P16 0 thick, a dry one's", x.gone(4), 0);
        SoapTreaty half = Check.told(FIVE + cake("ca", "p", "n", 1, 5) + "wears 1;");
        CHECK.due("P16 half of 1 wears nothing", half.gone(0), -1);
        SoapTreaty seven = Check.told(FIVE + seven("n", "p", 1));
        CHECK.due("P16 the last of seven", seven.gone(6), 1);
    }

    /** A cake of that thickness which wears 1 a week as soon as it was washed with more often than that. */
    private static SoapTreaty late(int thick, int used, String more) {
        return Check.told(FIVE + cake("ca", "n", "p", thick, 5) + cake("cb", "p", "d", thick, 5) + more + "wears " + used + "<used;");
    }

    private static void goneFar() {
        CHECK.due("P16 98", late(1, 96, "").gone(0), 98);
        CHECK.due("P16 99", late(1, 97, "").gone(0), 99);
        CHECK.due("P16 not by 99", late(1, 98, "").gone(0), -1);
        CHECK.due("P16 99, the last of many", late(40, 58, "").gone(0), 99);
        CHECK.due("P16 not by 99, the last of many", late(40, 59, "").gone(0), -1);
        SoapTreaty x = late(1, 98, "");
        x.week();
        CHECK.due("P16 from now on", x.gone(0), 99);
        x.week();
        CHECK.due("P16 from now on", x.gone(0), 98);
        x.undo();
        x.undo();
        CHECK.due("P16 from then on", x.gone(0), -1);
    }

    // ---- promise 17

    private static void worn() {
        SoapTreaty x = Check.told(FIVE + cake("ca", "n", "p", 9, 5) + cake("cb", "n", "p", 9, 5) + cake("cc", "n", "p", 9, 5)
            + cake("cd", "n", "p", 9, 5) + cake("ce", "n", "p", 9, 5) + cake("cf", "p", "d", 9, 5)
            + "pebble ca 9;pebble cb 8;pebble cc 3;pebble cd 0;pebble cf 8;wears 2;");
        CHECK.row("P17 worn", x::worn, -1, -1, 0, 1, 3, 5, -1, -1, -1);
        for (int cake : NO_CAKES) {
            CHECK.due("P17 no cake " + cake, x.worn(cake), -1);
        }
        CHECK.due("P16 it is gone though it has none", x.gone(4), 5);
        x.hair(2);
        CHECK.due("P17 a hair is in it", x.worn(2), -1);
        x.hair(0);
        CHECK.due("P17 found already, a hair in it", x.worn(0), 0);
        x.gift(5, 4);
        CHECK.due("P17 no more a dry one's", x.worn(5), 1);
        x.wash(3);
        CHECK.due("P17 from now on", x.worn(3), 4);
        x.press(3);
        CHECK.due("P17 pressed", x.worn(3), 0);
        x.wash(4);
        x.press(4);
        CHECK.due("P17 none in what is pressed", x.worn(4), -1);
    }

    private static void wornFar() {
        CHECK.due("P17 98", late(2, 96, "pebble ca 1;").worn(0), 98);
        CHECK.due("P17 99", late(2, 97, "pebble ca 1;").worn(0), 99);
        CHECK.due("P17 not by 99", late(2, 98, "pebble ca 1;").worn(0), -1);
        CHECK.due("P17 at 0, 99", late(1, 97, "pebble ca 0;").worn(0), 99);
        CHECK.due("P17 at 0, not by 99", late(1, 98, "pebble ca 0;").worn(0), -1);
        CHECK.due("P17 found already, gone never", late(2, 9999, "pebble ca 2;").worn(0), 0);
        SoapTreaty x = late(2, 98, "pebble ca 1;");
        x.week();
        CHECK.due("P17 from now on", x.worn(0), 99);
    }

    // ---- promise 18

    private static void last() {
        SoapTreaty x = Check.told(FIVE + cake("ca", "n", "p", 3, 5) + cake("cb", "n", "p", 5, 5) + cake("cc", "n", "p", 5, 5)
            + cake("cd", "n", "p", 4, 5) + "wears 1;");
        CHECK.due("P18 of equal ones the first", x.last(), 1);
        x.wash(1);
        CHECK.due("P18 the longest", x.last(), 2);
        x.wash(2);
        x.wash(2);
        CHECK.due("P18 of equal ones the first", x.last(), 1);
        x.hair(3);
        CHECK.due("P18 for ever", x.last(), 3);
        x.gift(2, 2);
        CHECK.due("P18 of two for ever the first", x.last(), 2);
        x.hair(0);
        CHECK.due("P18 of three for ever the first", x.last(), 0);
        for (int cake = 0; cake < 4; cake++) {
            x.pick(cake);
            x.wash(cake);
            CHECK.due("P18 one is there", x.last() >= cake, true);
            x.press(cake);
        }
        CHECK.due("P18 none is there", x.last(), -1);
        CHECK.due("P18 no cake", Check.told(FIVE).last(), -1);
        SoapTreaty one = Check.told(FIVE + cake("ca", "n", "p", 1, 5));
        CHECK.due("P18 one that is gone by the next week", one.last(), 0);
        one.week();
        CHECK.due("P18 it is gone", one.last(), -1);
    }

    private static void lastFar() {
        CHECK.due("P18 for ever is longer than 99", late(1, 97, "").last(), 1);
        CHECK.due("P18 not by 99 is for ever, as GONE tells it (NOTES.md)", late(1, 98, "").last(), 0);
        SoapTreaty x = Check.told(FIVE + cake("ca", "n", "p", 1, 8) + cake("cb", "n", "p", 1, 9) + "wears 89+tough<used;");
        CHECK.due("P16 by 99", x.gone(0), 99);
        CHECK.due("P16 not by 99", x.gone(1), -1);
        CHECK.due("P18 not by 99 is longer than 99", x.last(), 1);
    }

    // ---- promise 19

    private static void best() {
        SoapTreaty x = Check.told(FIVE + cake("ca", "n", "p", 9, 5) + cake("cb", "p", "q", 9, 5) + cake("cc", "p", "d", 9, 3)
            + cake("cd", "p", "c", 1, 9) + cake("ce", "q", "n", 2, 0) + cake("cf", "q", "n", 1, 0));
        CHECK.row("P19 best", x::best, -1, -1, 4, 4, 0, 0, 0, 0, -1);
        for (int cake : NO_CAKES) {
            CHECK.due("P19 no cake " + cake, x.best(cake), -1);
        }
        x.hair(0);
        CHECK.due("P19 a hair is in it", x.best(0), -1);
        x.pick(0);
        CHECK.due("P19 the hair is out", x.best(0), 4);
        x.wash(1);
        x.press(1);
        CHECK.due("P19 it is not there", x.best(1), -1);
        SoapTreaty naval = Check.told("power d dry water 9;power n naval water 9;power m naval water 9;power p plain water 1;"
            + cake("ca", "p", "d", 3, 5) + cake("cb", "p", "m", 3, 5) + "wears 2*wet-used*2+used*used*9;");
        CHECK.due("P19 the soonest, by the water of each", naval.best(0), 1);
        CHECK.due("P19 of equal ones the first, not whose it is", naval.best(1), 1);
        SoapTreaty none = Check.told("power d dry water 9;power c carver water 9;" + cake("ca", "c", "d", 1, 0));
        CHECK.due("P19 whosever it were", none.best(0), -1);
        SoapTreaty own = Check.told("power p plain water 1;power c carver water 9;" + cake("ca", "c", "p", 1, 9));
        CHECK.due("P19 whose it is, too", own.best(0), 0);
        SoapTreaty sent = Check.told("power c carver water 1;power p plain water 9;" + cake("ca", "p", "c", 1, 9));
        CHECK.due("P19 who sent it, too", sent.best(0), 1);
        CHECK.due("P19 it is not given", sent.cake(0, 1), 0);
    }

    private static void bestFar() {
        CHECK.due("P19 by 99", late(1, 97, "").best(1), 0);
        CHECK.due("P19 not by 99", late(1, 98, "").best(1), -1);
        SoapTreaty x = Check.told("power d dry water 9;power a plain water 9;power b plain water 8;" + cake("ca", "a", "d", 1, 5)
            + "wears 89+wet<used;");
        CHECK.due("P19 99, where the one before needs 100", x.best(0), 2);
    }

    // ---- promise 20

    private static void pressingRange() {
        SoapTreaty x = Check.told(FIVE + seven("n", "c", 40));
        CHECK.due("P20 none was washed with", x.pressing(1), -1);
        x.week();
        for (int thick : new int[] {0, -1, 201, 202, Integer.MIN_VALUE, Integer.MAX_VALUE}) {
            CHECK.due("P20 not 1 to 200: " + thick, x.pressing(thick), -1);
        }
        CHECK.due("P20 1", x.pressing(1), 1);
        CHECK.due("P20 40", x.pressing(40), 1);
        CHECK.due("P20 41", x.pressing(41), 3);
        CHECK.due("P20 160", x.pressing(160), 15);
        CHECK.due("P20 161", x.pressing(161), 31);
        CHECK.due("P20 200", x.pressing(200), 31);
        for (int cake = 0; cake < 5; cake++) {
            x.press(cake);
        }
        CHECK.due("P20 the lump is 200 already", x.pressing(200), 0);
        CHECK.due("P20 201 is none asked", x.pressing(201), -1);
        SoapTreaty thin = Check.told(FIVE + seven("n", "c", 10));
        thin.week();
        for (int cakes = 1; cakes <= 7; cakes++) {
            CHECK.due("P20 " + cakes + " cakes of 10", thin.pressing(10 * cakes), (1 << cakes) - 1);
            CHECK.due("P20 one more than that", thin.pressing(10 * cakes + 1), cakes == 7 ? -1 : (1 << cakes + 1) - 1);
        }
    }

    private static void pressingFewest() {
        SoapTreaty x = Check.told(FIVE + cake("ca", "n", "c", 5, 5) + cake("cb", "n", "c", 6, 5) + cake("cc", "n", "c", 11, 5)
            + cake("cd", "n", "c", 6, 5) + cake("ce", "n", "c", 11, 5));
        x.week();
        CHECK.due("P20 no less thick: 5", x.pressing(5), 1);
        CHECK.due("P20 one more", x.pressing(6), 2);
        CHECK.due("P20 the fewest, not the least set: 4, not 3", x.pressing(11), 4);
        CHECK.due("P20 two, the least set", x.pressing(12), 5);
        CHECK.due("P20 two", x.pressing(17), 6);
        CHECK.due("P20 two thick ones", x.pressing(18), 20);
        CHECK.due("P20 two thick ones", x.pressing(22), 20);
        CHECK.due("P20 three, the least set", x.pressing(23), 14);
        CHECK.due("P20 three thick ones", x.pressing(24), 21);
        CHECK.due("P20 all", x.pressing(39), 31);
        CHECK.due("P20 by none", x.pressing(40), -1);
        x.press(0);
        CHECK.due("P20 the lump counts: 5", x.pressing(5), 0);
        CHECK.due("P20 the lump counts: 6", x.pressing(6), 2);
        CHECK.due("P20 the lump counts: all the others", x.pressing(39), 30);
        CHECK.due("P20 the lump counts: by none", x.pressing(40), -1);
    }

    private static void pressingThose() {
        SoapTreaty x = Check.told(FIVE + cake("ca", "n", "c", 5, 5) + cake("cb", "n", "d", 9, 5) + cake("cc", "n", "c", 5, 5)
            + cake("cd", "n", "p", 1, 5));
        x.week();
        x.hair(0);
        CHECK.due("P20 a hair is no matter", x.pressing(5), 1);
        CHECK.due("P20 one that was not washed with can't be", x.pressing(9), 5);
        CHECK.due("P20 one that is not there can't be", x.pressing(11), -1);
        x.wash(1);
        CHECK.due("P20 washed with now", x.pressing(7), 2);
        String before = Check.all(x);
        x.pressing(5);
        CHECK.stays("P20 none is pressed", x, before);
    }

    // ---- promise 21

    private static void peace() {
        SoapTreaty x = Check.told(FIVE + seven("n", "c", 9));
        CHECK.due("P21 no hair", x.peace(), 0);
        for (int cake = 0; cake < 7; cake++) {
            x.hair(cake);
            CHECK.due("P21 all of the same two", x.peace(), (1 << cake + 1) - 1);
        }
        x.gift(0, 1);
        CHECK.due("P21 one that came back is no war", x.peace(), 126);
        x.gift(1, 0);
        CHECK.due("P21 of other two", x.peace(), 126);
        x.pick(2);
        x.wash(2);
        x.hair(2);
        CHECK.due("P21 there", x.peace(), 126);
        x.press(2);
        CHECK.due("P21 not there", x.peace(), 122);
        for (int cake = 1; cake < 7; cake++) {
            if (cake != 2) {
                CHECK.due("P33 at war as long as one is left", x.count(7) > 0, true);
                x.pick(cake);
            }
        }
        CHECK.due("P33 nobody is at war then", x.count(7), 0);
        CHECK.due("P21 none more", x.peace(), 0);
        CHECK.due("P6 hairs are left all the same", x.cake(0, 4) + x.cake(2, 4), 2);
        SoapTreaty thin = Check.told(FIVE + cake("ca", "n", "p", 1, 5));
        thin.hair(0);
        CHECK.due("P21 1 thick is there", thin.peace(), 1);
    }

    // ---- promises 22 and 23

    private static SoapTreaty pairs() {
        return Check.told(FIVE + cake("ca", "n", "p", 1, 5) + cake("cb", "p", "n", 9, 5) + cake("cc", "c", "q", 9, 5)
            + cake("cd", "q", "c", 9, 5) + cake("ce", "d", "q", 9, 5) + cake("cf", "q", "d", 9, 5));
    }

    private static void pacts() {
        SoapTreaty x = pairs();
        CHECK.row("P22 pacts", x::pacts, -1, -1, 0, 2, 2, 2);
        CHECK.row("P22 pacts", x::pacts, 58, 2, 2, 2, -1, -1);
        CHECK.due("P22 no far week", x.pacts(Integer.MAX_VALUE), -1);
        CHECK.due("P22 no far week", x.pacts(Integer.MIN_VALUE), -1);
        CHECK.due("P33 none now", x.count(8), 0);
        x.wash(5);
        CHECK.due("P22 a dry one's washed with by hand", x.pacts(0), 0);
        CHECK.due("P22 and the other one's in a week", x.pacts(1), 3);
        x.hair(3);
        CHECK.due("P22 at war, not washed with", x.pacts(60), 2);
        x.wash(0);
        x.wash(1);
        CHECK.due("P22 now", x.pacts(0), 1);
        CHECK.due("P22 the pairs are as many now", x.pacts(0), x.count(8));
        x.hair(1);
        CHECK.due("P22 at war now", x.pacts(0), 0);
        CHECK.due("P22 at war then", x.pacts(60), 1);
        CHECK.due("P22 no power, no pair", new SoapTreaty().pacts(60), 0);
    }

    private static void soonest() {
        SoapTreaty x = pairs();
        CHECK.due("P23 one week", x.soonest(), 1);
        x.week();
        CHECK.due("P23 none", x.soonest(), 0);
        x.wash(5);
        CHECK.due("P23 now: the other one washed with it", x.soonest(), 0);
        x.undo();
        x.undo();
        x.wash(0);
        x.wash(1);
        CHECK.due("P23 more in a week, though one is now", x.soonest(), 1);
        x.hair(2);
        CHECK.due("P23 no more in a week", x.soonest(), 0);
        CHECK.due("P23 nobody", new SoapTreaty().soonest(), 0);
        SoapTreaty never = Check.told(FIVE + cake("ca", "n", "d", 1, 5) + cake("cb", "d", "n", 9, 5));
        CHECK.due("P23 never any: none", never.soonest(), 0);
    }

    // ---- promises 24 and 25

    private static void blocs() {
        StringBuilder text = new StringBuilder();
        for (int number = 0; number <= 5; number++) {
            CHECK.due("P24 each alone of " + number, Check.told(text.toString()).blocs(), number);
            text.append("power v").append((char) ('a' + number)).append(" plain water 1;");
        }
        SoapTreaty x = pairs();
        CHECK.due("P24 before", x.blocs(), 5);
        x.week();
        CHECK.due("P24 two pairs", x.blocs(), 3);
        x.wash(5);
        CHECK.due("P24 three in one", x.blocs(), 2);
        CHECK.due("P5 allies by another one", x.power(3, 5), 20);
        x.hair(3);
        CHECK.due("P24 at war", x.blocs(), 3);
    }

    private static void devoted() {
        SoapTreaty x = Check.told(FIVE + cake("ca", "n", "p", 3, 5) + cake("cb", "p", "n", 3, 5) + cake("cc", "p", "q", 4, 5)
            + cake("cd", "p", "q", 4, 5) + cake("ce", "p", "d", 3, 5) + "wears 1;sliver 2;");
        CHECK.due("P25 nobody has one", x.devoted(), -1);
        x.wash(4);
        CHECK.due("P25 one", x.devoted(), 2);
        x.wash(0);
        CHECK.due("P25 of equal ones the first", x.devoted(), 0);
        for (int i = 0; i < 2; i++) {
            x.wash(2);
            x.wash(3);
        }
        CHECK.due("P25 the most", x.devoted(), 4);
        x.wash(3);
        x.wash(3);
        CHECK.due("P25 one that is gone is no sliver", x.devoted(), 0);
        x.gift(2, 2);
        CHECK.due("P25 whose they are", x.devoted(), 2);
        CHECK.due("P25 no power", new SoapTreaty().devoted(), -1);
    }

    /** (nothing else being done): what is asked of the weeks ahead leaves all as it is. */
    private static void nothingIsDone() {
        SoapTreaty x = pairs();
        Check.years(x, "week;press ca;");
        x.week();
        x.see(1, 2, 3);
        String before = Check.all(x);
        for (int cake = 0; cake < 6; cake++) {
            x.gone(cake);
            x.worn(cake);
            x.best(cake);
        }
        x.last();
        x.pressing(9);
        x.peace();
        x.pacts(60);
        x.soonest();
        x.blocs();
        x.devoted();
        CHECK.stays("P16 to P25 nothing is done", x, before);
        CHECK.due("P13 what can be undone", x.undo(), true);
        CHECK.due("P33 week 0", x.count(3), 0);
    }
}
