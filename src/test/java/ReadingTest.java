/** Promises 1 to 4: a new object, the tape, congresses and years read, and the faults in them. */
final class ReadingTest {
    private static final Check CHECK = new Check();
    private static final String TWO = "power a plain water 5;power b naval water 8;";
    private static final String CAKE = "cake c from a to b thick 10 hard 4;";

    public static void main(String[] args) {
        newObject();
        feeding();
        tokens();
        congressFaults();
        tooMany();
        laws();
        lawFaults();
        allStaysOrIsNew();
        yearsFaults();
        CHECK.end("ReadingTest");
    }

    private static void newObject() {
        SoapTreaty x = new SoapTreaty();
        int[] due = {0, 0, 2, 0, 0, 0, 0, 0, 0, 0, 0, 0, 0, -1};
        for (int what = 0; what < due.length; what++) {
            CHECK.due("new count(" + what + ")", x.count(what), due[what]);
        }
        CHECK.due("new count(-1)", x.count(-1), -1);
        CHECK.due("new undo", x.undo(), false);
        CHECK.due("new mark back", x.mark(0, true), false);
        CHECK.due("new power", x.power(0, 0), -1);
        CHECK.due("new cake", x.cake(0, 0), -2);
    }

    private static void feeding() {
        SoapTreaty x = new SoapTreaty();
        CHECK.due("signs of zeros", x.feed(0, 0, 0), 0);
        CHECK.due("bytes kept", x.feed(0x0A1F207E7F80FF41L, -1L, 0x0900000000000042L), 5);
        CHECK.due("tape read by congress", x.congress(), Check.fault(1, 2));
        CHECK.due("tape taken at a fault", x.count(12), 0);
        long blanks = 0x2020202020202020L;
        for (int i = 1; i <= 41; i++) {
            CHECK.due("blanks " + i, x.feed(blanks, blanks, blanks), 24 * i);
        }
        CHECK.due("up to 1,000", x.feed(blanks, blanks, blanks), 1000);
        CHECK.due("beyond 1,000", x.feed(0x4141414141414141L, blanks, blanks), 1000);
        CHECK.due("what is beyond is left out", x.congress(), 0);
        CHECK.due("tape taken", x.count(12), 0);
        CHECK.due("highest byte first", Check.congress(x, "power q"), Check.fault(1, 7));
        CHECK.due("years take the tape", Check.years(x, "week"), Check.fault(1, 4));
        CHECK.due("tape taken by years", x.count(12), 0);
    }

    private static void congressFault(String text, int kind, int place) {
        int due = kind == 0 ? 0 : Check.fault(kind, place);
        CHECK.due("congress: " + text, Check.congress(new SoapTreaty(), text), due);
    }

    private static void tokens() {
        congressFault("", 0, 0);
        congressFault(" \n ", 0, 0);
        congressFault("power\na\nplain\nwater\n5\n;\n", 0, 0);
        congressFault("power abcdefgh plain water 0005;", 0, 0);
        congressFault("power abcdefghi plain water 5;", 1, 6);
        congressFault("power a plain water 00005;", 1, 20);
        congressFault("power a plain water 5", 1, 21);
        congressFault("power a plain water 5  ", 1, 23);
        congressFault(TWO + "cake c from a to b thick 10hard 4;", 0, 0);
        congressFault(TWO + "cake c from a to b thick10hard4;", 0, 0);
        congressFault("power A plain water 5;", 1, 6);
        congressFault("power a.plain water 5;", 1, 7);
        congressFault("powera plain water 5;", 1, 0);
        congressFault("power a dry water 1;power aa dry water 1;power b dry water 1;power bb dry water 1;power z dry water 1;"
            + "cake za from a to aa thick 1 hard 1;cake az from b to bb thick 1 hard 1;cake zz from z to a thick 1 hard 1;"
            + "cake ba from a to aa thick 1 hard 1;cake ab from b to bb thick 1 hard 1;pebble za 1;pebble ab 1;pebble ba 1;", 0, 0);
    }

    private static void congressFaults() {
        int cake = TWO.length();
        congressFault("power power plain water 5;", 1, 6);
        congressFault("power left plain water 5;power used dry water 1;", 0, 0);
        congressFault("power week plain water 5;", 1, 6);
        congressFault("power dry plain water 5;", 1, 6);
        congressFault("power or plain water 5;", 1, 6);
        congressFault("power 7 plain water 5;", 1, 6);
        congressFault("power a wet water 5;", 1, 8);
        congressFault("power a plain 5;", 1, 14);
        congressFault("power a plain water b;", 1, 20);
        congressFault("power a plain water 10;", 4, 20);
        congressFault(TWO + "power a dry water 1;", 3, cake + 6);
        congressFault(TWO + CAKE + "power c dry water 1;", 3, cake + CAKE.length() + 6);
        congressFault(TWO + "cake a from a to b thick 10 hard 4;", 3, cake + 5);
        congressFault(TWO + CAKE + CAKE, 3, cake + CAKE.length() + 5);
        congressFault(TWO + "cake c from d to b thick 10 hard 4;", 2, cake + 12);
        congressFault(TWO + "cake c from c to b thick 10 hard 4;", 2, cake + 12);
        congressFault(TWO + "cake c from to to b thick 10 hard 4;", 1, cake + 12);
        congressFault(TWO + "cake c from a to d thick 10 hard 4;", 2, cake + 17);
        congressFault(TWO + "cake c from a to a thick 10 hard 4;", 3, cake + 17);
        congressFault(TWO + "cake c from a to b thick 0 hard 4;", 4, cake + 25);
        congressFault(TWO + "cake c from a to b thick 40 hard 0;", 0, 0);
        congressFault(TWO + "cake c from a to b thick 41 hard 4;", 4, cake + 25);
        congressFault(TWO + "cake c from a to b thick 10 hard 10;", 4, cake + 33);
        int pebble = cake + CAKE.length();
        congressFault(TWO + CAKE + "pebble c 39;", 0, 0);
        congressFault(TWO + CAKE + "pebble c 40;", 4, pebble + 9);
        congressFault(TWO + CAKE + "pebble a 1;", 2, pebble + 7);
        congressFault(TWO + CAKE + "pebble hair 1;", 1, pebble + 7);
        congressFault(TWO + CAKE + "pebble c 1;pebble c 1;", 3, pebble + 18);
        congressFault("sliver 9;", 0, 0);
        congressFault("sliver 10;", 4, 7);
        congressFault("sliver 0;", 4, 7);
        congressFault("sliver 1;sliver", 3, 9);
        congressFault("wears 1;sliver 1;wears", 3, 17);
        congressFault("wash c;", 1, 0);
        congressFault("sliver 1;;", 1, 9);
    }

    private static void tooMany() {
        StringBuilder five = new StringBuilder();
        for (char name = 'a'; name <= 'e'; name++) {
            five.append("power ").append(name).append(" dry water 0;");
        }
        congressFault(five.toString(), 0, 0);
        congressFault(five + "power", 5, five.length());
        StringBuilder seven = new StringBuilder(five);
        for (char name = 'p'; name <= 'v'; name++) {
            seven.append("cake ").append(name).append(" from a to b thick 1 hard 0;");
        }
        congressFault(seven.toString(), 0, 0);
        congressFault(seven + "cake", 5, seven.length());
        congressFault(seven + "pebble v 0;cake", 5, seven.length() + 11);
    }

    /** What a law gives is seen by how much a cake of 40 wears: a's water is 7, the cake's hardness 3. */
    private static int worn(String law, int washes) {
        SoapTreaty x = Check.told("power a plain water 7;power b dry water 0;cake c from b to a thick 40 hard 3;" + law);
        for (int i = 1; i < washes; i++) {
            x.wash(0);
        }
        int before = x.cake(0, 2);
        return before - x.wash(0);
    }

    private static void law(String law, int due) {
        CHECK.due(law, worn("wears " + law + ";", 1), due);
    }

    private static void laws() {
        CHECK.due("no law", worn("", 1), 2);
        law("1", 1);
        law("0", 0);
        law("10", 9);
        law("0-5", 0);
        law("9999*9999*9999*9999", Math.max(0, Math.min(9, 9999 * 9999 * 9999 * 9999)));
        law("tough", 3);
        law("wet", 7);
        law("left-38", 2);
        law("used+4", 4);
        CHECK.due("used a third time", worn("wears used+4;", 3), 6);
        CHECK.due("left a second time", worn("wears left-38;", 2), 0);
        law("1+2*3", 7);
        law("(1+2)*3", 9);
        law("9-3-2", 4);
        law("tough<wet", 1);
        law("wet<tough", 0);
        law("tough=3", 1);
        law("1+1=2", 1);
        law("not 5", 0);
        law("not 0*5", 5);
        law("not(0*5)*5", 5);
        law("not not 7", 1);
        law("2 and 4", 1);
        law("2 and 0", 0);
        law("0 or 4", 1);
        law("1 or 1 and 0", 0);
        law("0 and 1 or 1", 1);
        law("1<2 and 2<3", 1);
        law("(1<2)+(2<3)*5", 6);
        law("3-(1-2)", 4);
        law("8192*8192*64+8", 8);
        law("8192*8192*32-1+8192*8192*32+5", 4);
        law("((((6))))", 6);
        law("0 or 0<0+1*(0 or 0<0+1*(0 or 0<0+1*(0 or 0<0+1*(0 or 0<0+1*5))))", 1);
        law("1 and 1=9-8*(1 and 1=9-8*(1 and 1=9-8*(1 and 1=9-8*(1 and 1=9-8*1))))", 1);
        law("not not not not 6", 1);
    }

    private static void lawFaults() {
        congressFault("wears ;", 1, 6);
        congressFault("wears", 1, 5);
        congressFault("wears 1", 1, 7);
        congressFault("wears 1 2;", 1, 8);
        congressFault("wears water;", 1, 6);
        congressFault("wears thick;", 1, 6);
        congressFault("wears 1+;", 1, 8);
        congressFault("wears *1;", 1, 6);
        congressFault("wears -1;", 1, 6);
        congressFault("wears 1<2<3;", 1, 9);
        congressFault("wears 1=2<3;", 1, 9);
        congressFault("wears (1<2)<3;", 0, 0);
        congressFault("wears (1;", 1, 8);
        congressFault("wears 1);", 1, 7);
        congressFault("wears ();", 1, 7);
        congressFault("wears 10000;", 1, 6);
        congressFault("wears 9999;", 0, 0);
        congressFault("wears left tough;", 1, 11);
        congressFault("wears 2left;", 1, 7);
        congressFault("wears 1 and or 1;", 1, 12);
        congressFault("wears ((((1))))", 1, 15);
        congressFault("wears (((((1)))));", 5, 11);
        congressFault("wears (((((left)))));", 5, 11);
        congressFault("wears ((((((1))))));", 5, 11);
        congressFault("wears (((((not 1)))));", 5, 11);
        congressFault("wears (((((;", 1, 11);
        congressFault("wears (((((x", 1, 11);
        congressFault("wears not not not not not 1;", 5, 26);
        congressFault("wears not not not not not not 1;", 5, 26);
        congressFault("wears not(not(not 1));", 5, 18);
        congressFault("wears ((not(not 1)));", 5, 16);
        congressFault("wears ((not(not ;", 1, 16);
        congressFault("wears ((((1+2)*3)<4)=5) and not not(not 1);", 0, 0);
    }

    private static void allStaysOrIsNew() {
        SoapTreaty x = Check.told(TWO + CAKE + "pebble c 3;sliver 4;");
        x.week();
        x.hair(0);
        x.mark(2, false);
        x.see(0, 3, 4);
        CHECK.due("years", Check.years(x, "week;"), 0);
        CHECK.due("a fault", Check.congress(x, "power z dry water 1;sliver 8;x"), Check.fault(1, 29));
        int[] due = {2, 1, 4, 1, 0, 9, 1, 1, 0, 1, 1, 2, 0};
        for (int what = 0; what < due.length; what++) {
            CHECK.due("all stays, count(" + what + ")", x.count(what), due[what]);
        }
        CHECK.due("the mark stays", x.mark(2, true), true);
        CHECK.due("another congress", Check.congress(x, TWO + CAKE), 0);
        int[] fresh = {2, 1, 2, 0, 0, 10, 1, 0, 0, 0, 0, 0, 0};
        for (int what = 0; what < fresh.length; what++) {
            CHECK.due("all is new, count(" + what + ")", x.count(what), fresh[what]);
        }
        CHECK.due("no mark", x.mark(2, true), false);
        CHECK.due("nothing to undo", x.undo(), false);
        CHECK.due("no pebble", x.cake(0, 5), -1);
        CHECK.due("the usual law again", x.wash(0), 9);
        CHECK.due("nothing told", Check.congress(x, ""), 0);
        CHECK.due("no power", x.count(0), 0);
        CHECK.due("no cake", x.count(5), 0);
    }

    private static void yearsFault(SoapTreaty x, String text, int kind, int place) {
        CHECK.due("years: " + text, Check.years(x, text), kind == 0 ? 0 : Check.fault(kind, place));
    }

    private static void yearsFaults() {
        SoapTreaty x = Check.told(TWO + CAKE);
        yearsFault(x, "wash c;hair c;pick c;gift c a;press c;week;", 0, 0);
        CHECK.due("six lines", x.count(9), 6);
        yearsFault(x, "week;wash d;", 2, 10);
        yearsFault(x, "wash a;", 2, 5);
        yearsFault(x, "hair b;", 2, 5);
        yearsFault(x, "pick to;", 1, 5);
        yearsFault(x, "gift c;", 1, 6);
        yearsFault(x, "gift c c;", 2, 7);
        yearsFault(x, "gift c b a;", 1, 9);
        yearsFault(x, "press 1;", 1, 6);
        yearsFault(x, "week week;", 1, 5);
        yearsFault(x, "wash c", 1, 6);
        yearsFault(x, "power d dry water 1;", 1, 0);
        yearsFault(x, ";", 1, 0);
        yearsFault(x, "wears c;", 1, 0);
        yearsFault(x, "plain c;", 1, 0);
        yearsFault(x, "c;", 1, 0);
        CHECK.due("the years stay", x.count(9), 6);
        StringBuilder forty = new StringBuilder();
        for (int i = 0; i < 40; i++) {
            forty.append("week;");
        }
        yearsFault(x, forty + "week", 5, 200);
        yearsFault(x, forty + "weak", 1, 200);
        CHECK.due("still six lines", x.count(9), 6);
        yearsFault(x, forty.toString(), 0, 0);
        CHECK.due("forty lines", x.count(9), 40);
        yearsFault(x, "", 0, 0);
        CHECK.due("no line", x.count(9), 0);
    }
}
