/** Promises 5 to 13, 15, 32 and 33: each boundary that the document names of what is done by hand and how it is then. */
final class HandEdgesTest {
    private static final Check CHECK = new Check();
    private static final int[] NO_CAKES = {-1, 7, 8, 31, 32, 33, -32, Integer.MIN_VALUE, Integer.MAX_VALUE};
    /** Numbers 0 plain, 1 naval, 2 dry, 3 carver, 4 plain. */
    private static final String FIVE = "power p plain water 4;power n naval water 9;power d dry water 9;"
        + "power c carver water 9;power q plain water 9;";
    private static final String SEVEN = "cake ca from n to p thick 9 hard 5;cake cb from p to n thick 8 hard 5;"
        + "cake cc from p to d thick 7 hard 5;cake cd from p to c thick 6 hard 5;cake ce from p to q thick 5 hard 5;"
        + "cake cf from q to p thick 1 hard 5;cake cg from d to p thick 40 hard 5;";

    public static void main(String[] args) {
        powersAsked();
        slivers();
        foes();
        allies();
        cakesAsked();
        pebbles();
        washRefused();
        washByKinds();
        washAtTheEnd();
        hairs();
        picks();
        gifts();
        presses();
        lump();
        weeks();
        weeksOfAll();
        undoneEach();
        undoneSixteen();
        undoneAndDone();
        earnest();
        earnestAndWar();
        earnestOthers();
        marksRefused();
        marksHold();
        marksApart();
        counts();
        CHECK.end("HandEdgesTest");
    }

    private static SoapTreaty told(String more) {
        return Check.told(FIVE + SEVEN + more);
    }

    // ---- promise 5

    private static void powersAsked() {
        SoapTreaty x = told("");
        int[] waters = {4, 9, 9, 9, 9};
        int[] kinds = {0, 1, 2, 3, 0};
        int[] theirs = {97, 2, 4, 8, 16};
        for (int power = 0; power < 5; power++) {
            int p = power;
            CHECK.row("P5 power " + p + ", what", what -> x.power(p, what), -1, -1, kinds[p], waters[p], theirs[p], p == 0 ? 1 : 0, 0, 0, -1);
            CHECK.due("P5 a far what", x.power(p, Integer.MAX_VALUE), -1);
            CHECK.due("P5 a far what", x.power(p, Integer.MIN_VALUE), -1);
        }
        for (int power : new int[] {-1, 5, 6, 31, 32, Integer.MIN_VALUE, Integer.MAX_VALUE}) {
            CHECK.row("P5 no power " + power + ", what", what -> x.power(power, what), 0, -1, -1, -1, -1, -1, -1);
        }
        SoapTreaty two = Check.told("power a carver water 1;power b dry water 2;");
        CHECK.due("P5 the last of two", two.power(1, 1), 2);
        CHECK.due("P5 no third of two", two.power(2, 1), -1);
    }

    private static void slivers() {
        SoapTreaty x = Check.told(FIVE + "cake ca from p to q thick 4 hard 1;cake cb from p to q thick 3 hard 1;"
            + "cake cc from p to q thick 1 hard 1;cake cd from p to q thick 1 hard 1;sliver 3;wears 1;");
        CHECK.due("P5 no thicker than slivers are: 3 and 1, not 4", x.power(4, 3), 3);
        x.wash(3);
        CHECK.due("P5 one that is gone is no sliver", x.power(4, 3), 2);
        CHECK.due("P5 theirs, there or not", x.power(4, 2), 15);
        x.wash(0);
        CHECK.due("P5 worn to a sliver", x.power(4, 3), 3);
        CHECK.due("P5 slivers are whose they are", x.power(0, 3), 0);
        x.gift(0, 0);
        CHECK.due("P5 given", x.power(0, 3), 1);
        CHECK.due("P5 given away", x.power(4, 3), 2);
        CHECK.due("P5 cakes given", x.power(0, 2), 1);
        CHECK.due("P5 cakes given away", x.power(4, 2), 14);
        SoapTreaty y = Check.told(FIVE + "cake ca from p to q thick 3 hard 1;cake cb from p to q thick 2 hard 1;");
        CHECK.due("P5 sliver 2 if none is told", y.power(4, 3), 1);
        SoapTreaty z = Check.told(FIVE + "cake ca from p to q thick 10 hard 1;cake cb from p to q thick 9 hard 1;sliver 9;");
        CHECK.due("P5 sliver 9", z.power(4, 3), 1);
    }

    private static void foes() {
        SoapTreaty x = Check.told(FIVE + "cake ca from p to q thick 9 hard 1;cake cb from n to q thick 9 hard 1;"
            + "cake cc from q to d thick 9 hard 1;cake cd from q to c thick 9 hard 1;cake ce from p to n thick 9 hard 1;"
            + "cake cf from n to p thick 9 hard 1;");
        for (int cake = 0; cake < 4; cake++) {
            x.hair(cake);
        }
        CHECK.due("P5 foes of q", x.power(4, 4), 15);
        for (int power = 0; power < 4; power++) {
            CHECK.due("P5 foes of " + power, x.power(power, 4), 16);
        }
        x.hair(4);
        CHECK.due("P5 who sent it and whose it is", x.power(0, 4), 18);
        CHECK.due("P5 whose it is and who sent it", x.power(1, 4), 17);
        x.gift(4, 2);
        CHECK.due("P5 no more whose it was", x.power(1, 4), 16);
        CHECK.due("P5 whose it is now", x.power(2, 4), 17);
        x.gift(4, 0);
        CHECK.due("P5 nobody is a foe of itself", x.power(0, 4), 16);
        x.wash(5);
        x.hair(5);
        CHECK.due("P5 a hair in one that is there", x.power(0, 4), 18);
        x.press(5);
        CHECK.due("P5 a hair in one that is not there", x.power(0, 4), 16);
        x.pick(0);
        CHECK.due("P5 picked", x.power(0, 4), 0);
        SoapTreaty thin = Check.told(FIVE + "cake ca from n to p thick 1 hard 5;");
        thin.hair(0);
        CHECK.due("P5 a hair in one that is 1 thick", thin.power(0, 4), 2);
        CHECK.due("P33 a pair at war by it", thin.count(7), 1);
    }

    private static void alliesBy(String way, int[] ends, int... due) {
        StringBuilder text = new StringBuilder("power va plain water 1;power vb plain water 1;power vc plain water 1;"
            + "power vd plain water 1;power ve plain water 1;");
        for (int i = 0; i < ends.length; i += 2) {
            char from = (char) ('a' + ends[i]);
            char to = (char) ('a' + ends[i + 1]);
            text.append("cake x").append((char) ('a' + i)).append(" from v").append(from).append(" to v").append(to).append(" thick 9 hard 1;");
            text.append("cake y").append((char) ('a' + i)).append(" from v").append(to).append(" to v").append(from).append(" thick 9 hard 1;");
        }
        SoapTreaty x = Check.told(text.toString());
        CHECK.due("P24 each alone: " + way, x.blocs(), 5);
        x.week();
        int blocs = 5 - ends.length / 2;
        for (int power = 0; power < 5; power++) {
            CHECK.due("P5 allies of " + power + ": " + way, x.power(power, 5), due[power]);
        }
        CHECK.due("P24 blocs: " + way, x.blocs(), blocs);
    }

    private static void allies() {
        alliesBy("a chain", new int[] {0, 1, 1, 2, 2, 3}, 14, 13, 11, 7, 0);
        alliesBy("a chain, the other way", new int[] {4, 3, 3, 2, 2, 1}, 0, 28, 26, 22, 14);
        alliesBy("a chain to and fro", new int[] {0, 4, 4, 1, 1, 3}, 26, 25, 0, 19, 11);
        alliesBy("a star", new int[] {2, 0, 2, 1, 2, 4}, 22, 21, 19, 0, 7);
        alliesBy("two apart", new int[] {0, 3, 1, 4}, 8, 16, 0, 1, 2);
        alliesBy("nobody", new int[] {}, 0, 0, 0, 0, 0);
    }

    // ---- promise 6

    private static void cakesAsked() {
        SoapTreaty x = told("pebble ca 8;pebble cg 39;");
        CHECK.row("P6 cake 0, what", what -> x.cake(0, what), -1, -2, 1, 0, 9, 0, 0, 0, 5, -2);
        CHECK.row("P6 cake 6, what", what -> x.cake(6, what), -1, -2, 2, 0, 40, 0, 0, 0, 5, -2);
        CHECK.row("P6 cake 1, it has no pebble", what -> x.cake(1, what), 0, 0, 1, 8, 0, 0, -1, 5);
        x.wash(0);
        x.wash(0);
        x.hair(0);
        x.gift(0, 3);
        CHECK.row("P6 then cake 0, what", what -> x.cake(0, what), 0, 1, 3, 7, 2, 1, 1, 5);
        CHECK.due("P6 a far what", x.cake(0, Integer.MAX_VALUE), -2);
        CHECK.due("P6 a far what", x.cake(0, Integer.MIN_VALUE), -2);
        for (int cake : NO_CAKES) {
            CHECK.row("P6 no cake " + cake + ", what", what -> x.cake(cake, what), 0, -2, -2, -2, -2, -2, -2, -2);
        }
        SoapTreaty one = Check.told(FIVE + "cake ca from n to p thick 9 hard 5;");
        CHECK.due("P6 no second of one", one.cake(1, 2), -2);
    }

    private static void pebbles() {
        SoapTreaty x = Check.told(FIVE + "cake ca from n to p thick 5 hard 5;cake cb from n to p thick 40 hard 5;"
            + "cake cc from n to p thick 39 hard 5;cake cd from n to p thick 1 hard 5;cake ce from n to p thick 2 hard 5;"
            + "pebble ca 3;pebble cb 39;pebble cc 39;pebble cd 0;wears 1;");
        CHECK.due("P6 thicker by two", x.cake(0, 5), 0);
        x.wash(0);
        CHECK.due("P6 thicker by one", x.cake(0, 5), 0);
        x.wash(0);
        CHECK.due("P6 as thick as that", x.cake(0, 5), 1);
        x.wash(0);
        CHECK.due("P6 less thick", x.cake(0, 5), 1);
        CHECK.due("P6 39 in 40", x.cake(1, 5), 0);
        CHECK.due("P6 39 in 39", x.cake(2, 5), 1);
        CHECK.due("P6 at 0 in 1", x.cake(3, 5), 0);
        x.wash(3);
        CHECK.due("P6 at 0 in 0, too", x.cake(3, 5), 1);
        x.wash(1);
        x.undo();
        CHECK.due("P6 39 in 40 again", x.cake(1, 5), 0);
        x.wash(1);
        x.press(1);
        CHECK.due("P6 pressed to 0", x.cake(1, 5), 1);
        x.wash(4);
        x.wash(4);
        CHECK.due("P6 none in one that is gone", x.cake(4, 5), -1);
    }

    // ---- promise 7

    private static void washRefused() {
        SoapTreaty x = told("");
        x.hair(0);
        x.wash(5);
        String before = Check.all(x);
        CHECK.due("P7 a hair is in it", x.wash(0), -1);
        CHECK.due("P7 it is not there", x.wash(5), -1);
        for (int cake : NO_CAKES) {
            CHECK.due("P7 no cake " + cake, x.wash(cake), -1);
        }
        CHECK.stays("P7 what can't be changes nothing", x, before);
        x.pick(0);
        CHECK.due("P7 the hair is out", x.wash(0), 8);
        CHECK.due("P7 the last cake", x.wash(6), 39);
    }

    private static void washByKinds() {
        for (int wear = 0; wear <= 10; wear++) {
            SoapTreaty x = Check.told(FIVE + "cake ca from n to p thick 40 hard 5;cake cb from p to n thick 40 hard 5;"
                + "cake cc from p to d thick 40 hard 5;cake cd from p to c thick 40 hard 5;wears " + wear + ";");
            int cut = Math.min(9, wear);
            CHECK.due("P7 a plain one's, wears " + wear, x.wash(0), 40 - cut);
            CHECK.due("P7 a naval one's half, wears " + wear, x.wash(1), 40 - cut / 2);
            CHECK.due("P7 a dry one's by hand, wears " + wear, x.wash(2), 40 - cut);
            CHECK.due("P7 a carver's 0, wears " + wear, x.wash(3), 40);
            for (int cake = 0; cake < 4; cake++) {
                CHECK.due("P7 once more washed with", x.cake(cake, 3), 1);
            }
        }
        SoapTreaty below = Check.told(FIVE + "cake ca from n to p thick 40 hard 5;cake cb from p to n thick 40 hard 5;wears 0-9;");
        CHECK.due("P7 0 at least, a plain one's", below.wash(0), 40);
        CHECK.due("P7 0 at least, a naval one's", below.wash(1), 40);
        below.gift(1, 0);
        CHECK.due("P7 by whose it is", below.cake(1, 1), 0);
        SoapTreaty given = Check.told(FIVE + "cake ca from n to c thick 40 hard 5;wears 8;");
        given.gift(0, 1);
        CHECK.due("P7 by whose it is: naval", given.wash(0), 36);
        given.gift(0, 0);
        CHECK.due("P7 by whose it is: plain", given.wash(0), 28);
    }

    private static void washAtTheEnd() {
        SoapTreaty x = Check.told(FIVE + "cake ca from n to p thick 4 hard 5;cake cb from n to p thick 3 hard 5;"
            + "cake cc from n to p thick 2 hard 5;wears 3;");
        CHECK.due("P7 one is left", x.wash(0), 1);
        CHECK.due("P7 none is left", x.wash(1), 0);
        CHECK.due("P7 0 at least", x.wash(2), 0);
        CHECK.due("P7 1 is there still", x.wash(0), 0);
        CHECK.due("P7 0 is not there", x.wash(0), -1);
        CHECK.due("P33 none is there", x.count(6), 0);
        CHECK.due("P6 twice", x.cake(0, 3), 2);
        CHECK.due("P6 once", x.cake(2, 3), 1);
    }

    // ---- promises 8 and 9

    private static void hairs() {
        SoapTreaty x = told("");
        x.wash(5);
        x.hair(0);
        String before = Check.all(x);
        CHECK.due("P8 it had one", x.hair(0), false);
        CHECK.due("P8 it is not there", x.hair(5), false);
        for (int cake : NO_CAKES) {
            CHECK.due("P8 no cake " + cake, x.hair(cake), false);
        }
        CHECK.stays("P8 what can't be changes nothing", x, before);
        CHECK.due("P8 another one", x.hair(6), true);
        CHECK.due("P6 one is in it", x.cake(6, 4), 1);
        CHECK.due("P6 none is in the next", x.cake(1, 4), 0);
        x.pick(0);
        CHECK.due("P8 again, when it had none", x.hair(0), true);
        SoapTreaty thin = Check.told(FIVE + "cake ca from n to p thick 1 hard 5;");
        CHECK.due("P8 1 thick is there", thin.hair(0), true);
    }

    private static void picks() {
        SoapTreaty x = told("");
        x.wash(0);
        x.hair(0);
        x.hair(6);
        String before = Check.all(x);
        CHECK.due("P9 there is none", x.pick(1), false);
        for (int cake : NO_CAKES) {
            CHECK.due("P9 no cake " + cake, x.pick(cake), false);
        }
        CHECK.stays("P9 what can't be changes nothing", x, before);
        x.press(0);
        CHECK.due("P6 the hair stays when it is pressed", x.cake(0, 4), 1);
        CHECK.due("P9 there or not", x.pick(0), true);
        CHECK.due("P6 it is out", x.cake(0, 4), 0);
        CHECK.due("P9 a second time", x.pick(0), false);
        CHECK.due("P9 of the last cake", x.pick(6), true);
        CHECK.due("P33 what can be undone", x.count(11), 6);
    }

    // ---- promise 10

    private static void gifts() {
        SoapTreaty x = told("");
        x.wash(5);
        String before = Check.all(x);
        CHECK.due("P10 to whose it is", x.gift(0, 0), false);
        CHECK.due("P10 it is not there", x.gift(5, 1), false);
        CHECK.due("P10 no power 5", x.gift(0, 5), false);
        CHECK.due("P10 no power -1", x.gift(0, -1), false);
        CHECK.due("P10 no far power", x.gift(0, Integer.MAX_VALUE), false);
        CHECK.due("P10 no far power", x.gift(0, Integer.MIN_VALUE), false);
        for (int cake : NO_CAKES) {
            CHECK.due("P10 no cake " + cake, x.gift(cake, 1), false);
        }
        CHECK.stays("P10 what can't be changes nothing", x, before);
        for (int power = 1; power < 5; power++) {
            CHECK.due("P10 to another", x.gift(0, power), true);
            CHECK.due("P6 it is theirs", x.cake(0, 1), power);
            CHECK.due("P6 who sent it stays", x.cake(0, 0), 1);
            CHECK.due("P10 a second time", x.gift(0, power), false);
        }
        CHECK.due("P10 back", x.gift(0, 0), true);
        CHECK.due("P10 to who sent it", x.gift(0, 1), true);
        x.hair(6);
        CHECK.due("P10 with a hair in it", x.gift(6, 4), true);
        CHECK.due("P6 the hair stays", x.cake(6, 4), 1);
        SoapTreaty thin = Check.told(FIVE + "cake ca from n to p thick 1 hard 5;");
        CHECK.due("P10 1 thick is there", thin.gift(0, 4), true);
        SoapTreaty two = Check.told("power a plain water 1;power b dry water 2;cake ca from a to b thick 9 hard 1;");
        CHECK.due("P10 no third power of two", two.gift(0, 2), false);
    }

    // ---- promise 11

    private static void presses() {
        SoapTreaty x = told("");
        x.wash(5);
        x.hair(2);
        String before = Check.all(x);
        CHECK.due("P11 not washed with", x.press(0), -1);
        CHECK.due("P11 not washed with, a hair in it", x.press(2), -1);
        CHECK.due("P11 washed with, not there", x.press(5), -1);
        for (int cake : NO_CAKES) {
            CHECK.due("P11 no cake " + cake, x.press(cake), -1);
        }
        CHECK.stays("P11 what can't be changes nothing", x, before);
        x.wash(0);
        CHECK.due("P11 washed with once", x.press(0), 8);
        CHECK.due("P6 0 thick then", x.cake(0, 2), 0);
        CHECK.due("P6 washed with as often", x.cake(0, 3), 1);
        CHECK.due("P11 a second time", x.press(0), -1);
        CHECK.due("P33 the lump stays", x.count(4), 8);
        SoapTreaty thin = Check.told(FIVE + "cake ca from n to c thick 1 hard 5;");
        thin.wash(0);
        CHECK.due("P11 1 thick is there", thin.press(0), 1);
    }

    private static void lump() {
        SoapTreaty x = Check.told(FIVE + "cake ca from n to c thick 40 hard 5;cake cb from n to c thick 40 hard 5;"
            + "cake cc from n to c thick 40 hard 5;cake cd from n to c thick 40 hard 5;cake ce from n to c thick 40 hard 5;"
            + "cake cf from n to c thick 40 hard 5;cake cg from n to c thick 40 hard 5;");
        x.week();
        x.hair(3);
        for (int cake = 0; cake < 7; cake++) {
            CHECK.due("P11 all of it goes into the lump", x.press(cake), 40 * (cake + 1));
        }
        CHECK.due("P33 none is there", x.count(6), 0);
        CHECK.due("P33 the lump", x.count(4), 280);
    }

    // ---- promise 12

    private static void weeks() {
        SoapTreaty x = Check.told(FIVE + "cake ca from n to p thick 1 hard 5;cake cb from n to p thick 2 hard 5;"
            + "cake cc from n to p thick 1 hard 5;cake cd from n to d thick 1 hard 5;cake ce from n to c thick 1 hard 5;"
            + "cake cf from p to n thick 1 hard 5;cake cg from n to p thick 1 hard 5;wears 1;");
        x.hair(2);
        x.wash(6);
        CHECK.due("P12 gone by it, not ahead of it", x.week(), 1);
        CHECK.due("P33 the next week", x.count(3), 1);
        int[] used = {1, 1, 0, 0, 1, 1, 1};
        int[] thick = {0, 1, 1, 1, 1, 1, 0};
        for (int cake = 0; cake < 7; cake++) {
            CHECK.due("P12 who washes: cake " + cake, x.cake(cake, 3), used[cake]);
            CHECK.due("P12 how thick then: cake " + cake, x.cake(cake, 2), thick[cake]);
        }
        CHECK.due("P12 the second week", x.week(), 2);
        CHECK.due("P12 the third", x.week(), 0);
        CHECK.due("P33 week 3", x.count(3), 3);
        CHECK.due("P6 what is gone is not washed with", x.cake(0, 3), 1);
        x.gift(3, 0);
        CHECK.due("P12 no more a dry one's", x.week(), 8);
        x.pick(2);
        CHECK.due("P12 the hair is out", x.week(), 4);
        x.gift(4, 2);
        CHECK.due("P12 a dry one's now", x.week(), 0);
        CHECK.due("P6 washed with as often as before", x.cake(4, 3), 5);
    }

    private static void weeksOfAll() {
        StringBuilder text = new StringBuilder(FIVE);
        for (char name = 'a'; name <= 'g'; name++) {
            text.append("cake c").append(name).append(" from n to p thick 9 hard 5;");
        }
        SoapTreaty x = Check.told(text + "wears 9;");
        CHECK.due("P12 all seven are gone", x.week(), 127);
        CHECK.due("P12 none more", x.week(), 0);
        SoapTreaty y = Check.told(text + "wears 8;");
        CHECK.due("P12 1 is left of each", y.week(), 0);
        CHECK.due("P33 together", y.count(5), 7);
        CHECK.due("P12 all seven are gone then", y.week(), 127);
        SoapTreaty none = Check.told(FIVE);
        CHECK.due("P12 no cake", none.week(), 0);
        CHECK.due("P33 it is the next week all the same", none.count(3), 1);
    }

    // ---- promise 13

    private static void undoneEach() {
        SoapTreaty x = told("");
        String[] before = new String[7];
        x.see(0, 1, 1);
        before[0] = small(x);
        x.wash(0);
        before[1] = small(x);
        x.hair(0);
        before[2] = small(x);
        x.pick(0);
        before[3] = small(x);
        x.gift(0, 3);
        before[4] = small(x);
        x.press(0);
        before[5] = small(x);
        x.week();
        CHECK.due("P33 what can be undone", x.count(11), 6);
        String[] acts = {"wash", "hair", "pick", "gift", "press", "week"};
        for (int i = 5; i >= 0; i--) {
            CHECK.due("P13 undo " + acts[i], x.undo(), true);
            CHECK.due("P13 as it was before " + acts[i], small(x).equals(before[i]), true);
            CHECK.due("P33 one less can be undone", x.count(11), i);
        }
        CHECK.due("P13 nothing can be", x.undo(), false);
        CHECK.due("P13 all stays then", small(x).equals(before[0]), true);
    }

    /** What is done by hand is seen on cakes 0 and 1 and in the counts. */
    private static String small(SoapTreaty x) {
        StringBuilder text = new StringBuilder();
        for (int what = 1; what <= 6; what++) {
            text.append(x.cake(0, what)).append(' ').append(x.cake(1, what)).append(' ').append(x.count(2 + what)).append(' ');
        }
        return text.append(x.count(10)).toString();
    }

    private static void undoneSixteen() {
        for (int done : new int[] {0, 1, 15, 16, 17, 31, 32, 33, 40}) {
            SoapTreaty x = told("");
            for (int i = 0; i < done; i++) {
                x.week();
            }
            int can = Math.min(16, done);
            CHECK.due("P33 the last 16 of " + done, x.count(11), can);
            for (int i = 1; i <= can; i++) {
                CHECK.due("P13 undo " + i + " of " + done, x.undo(), true);
                CHECK.due("P13 one by one, the last first", x.count(3), done - i);
                CHECK.due("P33 so many are left", x.count(11), can - i);
            }
            CHECK.due("P13 no more of " + done, x.undo(), false);
            CHECK.due("P13 it stays so", x.count(3), done - can);
        }
    }

    private static void undoneAndDone() {
        SoapTreaty x = told("");
        for (int i = 0; i < 18; i++) {
            x.week();
        }
        for (int i = 0; i < 5; i++) {
            x.undo();
        }
        CHECK.due("P33 11 are left", x.count(11), 11);
        x.hair(6);
        CHECK.due("P13 an undo can't be undone", x.count(11), 12);
        CHECK.due("P13 undo the hair", x.undo(), true);
        CHECK.due("P6 no hair", x.cake(6, 4), 0);
        CHECK.due("P33 week 13", x.count(3), 13);
        for (int i = 0; i < 20; i++) {
            x.week();
        }
        for (int i = 0; i < 16; i++) {
            x.undo();
        }
        CHECK.due("P13 no more", x.undo(), false);
        CHECK.due("P33 week 17", x.count(3), 17);
        Check.years(x, "week;");
        x.see(0, 1, 1);
        x.mark(0, false);
        CHECK.due("P13 years, what is seen and marks are not undone", x.undo(), false);
        CHECK.due("P33 the years stay", x.count(9), 1);
        CHECK.due("P33 what is seen stays", x.count(10), 1);
        x.hair(6);
        x.undo();
        CHECK.due("P33 the years stay behind an undo", x.count(9), 1);
        CHECK.due("P33 what is seen stays behind an undo", x.count(10), 1);
        CHECK.due("P32 the mark stays behind an undo", x.mark(0, true), true);
    }

    // ---- promise 15

    private static void earnest() {
        SoapTreaty x = told("");
        CHECK.due("P15 none was washed with", x.earnest(0, 4), 0);
        x.wash(5);
        CHECK.due("P15 the one's alone", x.earnest(0, 4), 0);
        x.wash(4);
        CHECK.due("P15 each one's, one not there", x.earnest(0, 4), 1);
        CHECK.due("P15 the other way", x.earnest(4, 0), 1);
        x.press(4);
        CHECK.due("P15 none there", x.earnest(0, 4), 1);
        CHECK.due("P33 a pair", x.count(8), 1);
        CHECK.due("P15 others are not", x.earnest(0, 1), 0);
        x.wash(2);
        x.wash(6);
        CHECK.due("P15 a dry one, washed with by hand", x.earnest(0, 2), 1);
        x.wash(0);
        x.gift(0, 4);
        x.wash(1);
        CHECK.due("P15 one that was given away", x.earnest(0, 1), 0);
        x.gift(0, 0);
        CHECK.due("P15 one that came back", x.earnest(0, 1), 1);
        x.gift(0, 1);
        CHECK.due("P15 one that went back to who sent it", x.earnest(0, 1), 0);
        SoapTreaty given = Check.told(FIVE + "cake ca from n to p thick 9 hard 5;cake cb from p to q thick 9 hard 5;");
        given.week();
        CHECK.due("P15 not yet", given.earnest(0, 1), 0);
        given.gift(1, 1);
        CHECK.due("P15 it was washed with, by whomever", given.earnest(0, 1), 1);
    }

    private static void earnestAndWar() {
        SoapTreaty x = Check.told(FIVE + "cake ca from n to p thick 9 hard 5;cake cb from p to n thick 9 hard 5;"
            + "cake cc from p to n thick 9 hard 5;cake cd from q to p thick 9 hard 5;");
        x.week();
        CHECK.due("P15 in earnest", x.earnest(0, 1), 1);
        x.hair(3);
        CHECK.due("P15 another war", x.earnest(0, 1), 1);
        x.hair(2);
        CHECK.due("P15 at war by another cake", x.earnest(0, 1), 0);
        CHECK.due("P15 at war, the other way", x.earnest(1, 0), 0);
        x.press(2);
        CHECK.due("P15 a hair in one that is not there", x.earnest(0, 1), 1);
        x.hair(0);
        CHECK.due("P15 at war by one of the two", x.earnest(0, 1), 0);
        x.pick(0);
        CHECK.due("P15 picked", x.earnest(0, 1), 1);
    }

    private static void earnestOthers() {
        SoapTreaty x = told("");
        x.week();
        for (int power = 0; power < 5; power++) {
            CHECK.due("P15 the same", x.earnest(power, power), -1);
            for (int other : new int[] {-1, 5, 32, Integer.MIN_VALUE, Integer.MAX_VALUE}) {
                CHECK.due("P15 no other " + other, x.earnest(power, other), -1);
                CHECK.due("P15 no power " + other, x.earnest(other, power), -1);
            }
        }
        CHECK.due("P15 the same that is none", x.earnest(5, 5), -1);
        CHECK.due("P15 the last", x.earnest(0, 4), 1);
    }

    // ---- promise 32

    private static void marksRefused() {
        SoapTreaty x = told("");
        x.week();
        String before = Check.all(x);
        for (int mark : new int[] {-1, 4, 5, 31, 32, 35, -32, Integer.MIN_VALUE, Integer.MAX_VALUE}) {
            CHECK.due("P32 none such: " + mark, x.mark(mark, false), false);
            CHECK.due("P32 none such to go back to: " + mark, x.mark(mark, true), false);
        }
        for (int mark = 0; mark < 4; mark++) {
            CHECK.due("P32 nothing is on it: " + mark, x.mark(mark, true), false);
        }
        CHECK.stays("P32 what is refused changes nothing", x, before);
        CHECK.due("P32 mark 0", x.mark(0, false), true);
        for (int mark = 1; mark < 4; mark++) {
            CHECK.due("P32 nothing is on another one: " + mark, x.mark(mark, true), false);
        }
        CHECK.due("P32 laying is not done by hand", x.count(11), 1);
        CHECK.due("P32 it can be gone back to", x.mark(0, true), true);
        CHECK.due("P32 nothing can be undone", x.count(11), 0);
        CHECK.due("P13 nothing", x.undo(), false);
    }

    private static void marksHold() {
        SoapTreaty x = Check.told(FIVE + "cake ca from n to p thick 9 hard 5;cake cb from p to n thick 9 hard 5;pebble ca 7;sliver 5;");
        Check.years(x, "wash ca;wash ca;press ca;");
        x.see(0, 2, 9);
        x.week();
        x.press(1);
        x.gift(0, 4);
        x.hair(0);
        x.mark(3, false);
        CHECK.due("P33 so much could be undone", x.count(11), 4);
        x.mark(3, true);
        String marked = Check.all(x);
        x.pick(0);
        x.gift(0, 0);
        x.week();
        x.press(0);
        x.see(1, 3, 4);
        Check.years(x, "week;");
        Check.feed(x, "sliver");
        CHECK.due("P32 gone back to", x.mark(3, true), true);
        CHECK.stays("P32 how it was, the years, what was seen", x, marked);
        CHECK.due("P33 the tape is no part of it", x.count(12), 6);
        x.pick(0);
        CHECK.due("P33 what is done then can be undone", x.count(11), 1);
        x.undo();
        CHECK.due("P13 no further than the mark", x.undo(), false);
        CHECK.stays("P13 how it was on the mark", x, marked);
    }

    private static void marksApart() {
        SoapTreaty x = told("");
        for (int mark = 0; mark < 4; mark++) {
            x.week();
            Check.years(x, "week;".repeat(mark));
            CHECK.due("P32 laid " + mark, x.mark(mark, false), true);
        }
        for (int mark : new int[] {2, 0, 3, 1, 1, 3}) {
            x.week();
            CHECK.due("P32 gone back to " + mark, x.mark(mark, true), true);
            CHECK.due("P32 the week of mark " + mark, x.count(3), mark + 1);
            CHECK.due("P32 the years of mark " + mark, x.count(9), mark);
        }
        x.mark(0, false);
        x.week();
        x.mark(0, true);
        CHECK.due("P32 laid anew", x.count(3), 4);
        x.mark(2, true);
        CHECK.due("P32 the others stay", x.count(3), 3);
    }

    // ---- promise 33

    private static void counts() {
        SoapTreaty x = told("sliver 7;");
        CHECK.row("P33 count", x::count, -1, -1, 5, 7, 7, 0, 0, 76, 127, 0, 0, 0, 0, 0, 0, -1);
        x.week();
        x.press(1);
        x.hair(0);
        x.hair(4);
        Check.years(x, "week;hair ca;");
        x.see(6, 20, 40);
        Check.feed(x, "pebble ca");
        CHECK.row("P33 count", x::count, -1, -1, 5, 7, 7, 1, 7, 63, 93, 2, 0, 2, 1, 4, 9, -1);
        x.pick(4);
        CHECK.due("P33 pairs at war", x.count(7), 1);
        CHECK.due("P33 pairs in earnest", x.count(8), 1);
        CHECK.due("P33 a far what", x.count(Integer.MAX_VALUE), -1);
        CHECK.due("P33 a far what", x.count(Integer.MIN_VALUE), -1);
        SoapTreaty same = Check.told(FIVE + "cake ca from n to p thick 9 hard 5;cake cb from p to n thick 9 hard 5;cake cc from p to n thick 9 hard 5;");
        same.week();
        CHECK.due("P33 one pair in earnest by three cakes", same.count(8), 1);
        for (int cake = 0; cake < 3; cake++) {
            same.hair(cake);
            CHECK.due("P33 one pair at war", same.count(7), 1);
        }
        same.gift(0, 1);
        same.gift(1, 0);
        same.gift(2, 0);
        CHECK.due("P33 no pair of one", same.count(7), 0);
    }
}
