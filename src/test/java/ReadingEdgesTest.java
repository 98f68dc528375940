/** Promises 1 to 4: each boundary that the document names of a new object, the tape, tokens, CONGRESS, E and YEARS. */
final class ReadingEdgesTest {
    private static final Check CHECK = new Check();
    private static final String TWO = "power a plain water 5;power b naval water 8;";
    private static final String CAKE = "cake c from a to b thick 10 hard 4;";
    private static final String[] KEPT = {"power", "water", "cake", "from", "to", "thick", "hard", "pebble", "sliver",
        "wears", "wash", "hair", "pick", "gift", "press", "week", "plain", "naval", "dry", "carver", "not", "and", "or"};
    private static final String[] NO_TOKENS = {"#", "A", "abcdefghi", "10000", "00001", "_", ",", "{", "~", "!"};

    public static void main(String[] args) {
        newObjectAsked();
        newObjectDone();
        signsKept();
        signsInOrder();
        tapeFull();
        tapeTaken();
        words();
        numbers();
        signsOfTokens();
        blanks();
        everyPlaceOfACongress();
        names();
        namesToldAlready();
        powersNamed();
        pebbles();
        numbersTold();
        onceEach();
        fiveAndSeven();
        theFirstAndTheLeast();
        valuesOfE();
        wrappedE();
        factsOfE();
        shapesOfE();
        depthOfE();
        usualLaw();
        congressBegins();
        congressFaultStays();
        everyPlaceOfYears();
        namesInYears();
        fortyLines();
        yearsAreTheYears();
        CHECK.end("ReadingEdgesTest");
    }

    // ---- promise 1

    private static void newObjectAsked() {
        SoapTreaty x = new SoapTreaty();
        CHECK.row("P1 count", x::count, -1, -1, 0, 0, 2, 0, 0, 0, 0, 0, 0, 0, 0, 0, 0, -1);
        CHECK.row("P1 no power, what", what -> x.power(0, what), -1, -1, -1, -1, -1, -1, -1, -1, -1);
        CHECK.row("P1 no cake, what", what -> x.cake(0, what), -1, -2, -2, -2, -2, -2, -2, -2, -2, -2);
        CHECK.row("P1 judged", x::judged, -1, -2, -1, -1, 0, -2);
        CHECK.row("P1 gone", x::gone, -1, -1, -1);
        CHECK.row("P1 worn", x::worn, -1, -1, -1);
        CHECK.row("P1 best", x::best, -1, -1, -1);
        CHECK.row("P1 pressing", x::pressing, 0, -1, -1);
        CHECK.row("P1 pacts", x::pacts, -1, -1, 0, 0);
        CHECK.row("P1 sets: the empty one alone", x::sets, -1, -1, 1, 0, 0, -1);
        CHECK.row("P1 ask", x::ask, 0, -1, -1);
        CHECK.due("P1 earnest", x.earnest(0, 1), -1);
        CHECK.due("P1 last", x.last(), -1);
        CHECK.due("P1 peace", x.peace(), 0);
        CHECK.due("P1 soonest", x.soonest(), 0);
        CHECK.due("P1 blocs", x.blocs(), 0);
        CHECK.due("P1 devoted", x.devoted(), -1);
        CHECK.due("P1 chance", x.chance(0, 1, 5), -1);
        CHECK.row("P1 reigns, no draw of a cake", what -> x.reigns(9999, 99, what), -1, -1, 0, 0, 0, -1);
    }

    private static void newObjectDone() {
        SoapTreaty x = new SoapTreaty();
        CHECK.due("P1 wash", x.wash(0), -1);
        CHECK.due("P1 hair", x.hair(0), false);
        CHECK.due("P1 pick", x.pick(0), false);
        CHECK.due("P1 gift", x.gift(0, 0), false);
        CHECK.due("P1 press", x.press(0), -1);
        CHECK.due("P1 see", x.see(0, 1, 0), false);
        CHECK.due("P1 undo", x.undo(), false);
        for (int mark = 0; mark < 4; mark++) {
            CHECK.due("P1 nothing is on mark " + mark, x.mark(mark, true), false);
        }
        CHECK.due("P1 an empty tape is a congress of nothing", x.congress(), 0);
        CHECK.due("P1 an empty tape is years of no line", x.years(), 0);
        CHECK.due("P1 nothing was done", x.count(11), 0);
        CHECK.due("P1 a week without cakes", x.week(), 0);
        CHECK.due("P1 it is the next week", x.count(3), 1);
        CHECK.due("P1 it can be undone", x.undo(), true);
        CHECK.due("P1 week 0 again", x.count(3), 0);
    }

    // ---- promise 2

    private static void signsKept() {
        for (int sign = 0; sign < 256; sign++) {
            boolean kept = sign == 10 || sign >= 32 && sign <= 126;
            for (int slot = 0; slot < 24; slot++) {
                long[] abc = new long[3];
                abc[slot / 8] = (long) sign << 8 * (7 - slot % 8);
                CHECK.due("P2 sign " + sign + " as byte " + slot, new SoapTreaty().feed(abc[0], abc[1], abc[2]), kept ? 1 : 0);
            }
        }
        CHECK.due("P2 no sign", new SoapTreaty().feed(0, 0, 0), 0);
        CHECK.due("P2 no sign of high bytes", new SoapTreaty().feed(-1, Long.MIN_VALUE, 0x8081FEFF7F1F090BL), 0);
        long tildes = 0x7E7E7E7E7E7E7E7EL;
        CHECK.due("P2 24 signs", new SoapTreaty().feed(tildes, tildes, tildes), 24);
    }

    private static void signsInOrder() {
        SoapTreaty x = new SoapTreaty();
        CHECK.due("P2 three longs", x.feed(Check.eight("sliver 7", 0), Check.eight("; wears ", 0), Check.eight("left;  #", 0)), 24);
        CHECK.due("P2 a before b before c, the highest byte first", x.congress(), Check.fault(1, 23));
        x.feed(Check.eight("sliver 7", 0), Check.eight("; wears ", 0), Check.eight("left;   ", 0));
        CHECK.due("P2 read in that order", x.congress(), 0);
        CHECK.due("P2 sliver 7", x.count(2), 7);
        SoapTreaty y = new SoapTreaty();
        CHECK.due("P2 what is left out parts nothing", Check.feed(y, "sl\u0000iv\u001fe\u007fr\u0080 \u00ff6\t;\r"), 9);
        CHECK.due("P2 and has no place", Check.feed(y, "\u0000#"), 10);
        CHECK.due("P2 a fault behind what was left out", y.congress(), Check.fault(1, 9));
        Check.feed(y, "sli");
        CHECK.due("P2 signs come behind the tape", Check.feed(y, "ver 6;"), 9);
        CHECK.due("P2 pieces are one text", y.congress(), 0);
        CHECK.due("P2 sliver 6", y.count(2), 6);
    }

    private static void tapeFull() {
        for (int signs : new int[] {0, 1, 23, 24, 25, 984, 999, 1000, 1001, 1008, 1009, 1100}) {
            SoapTreaty x = new SoapTreaty();
            CHECK.due("P2 " + signs + " signs", Check.feed(x, " ".repeat(signs)), Math.min(1000, signs));
            CHECK.due("P2 on the tape", x.count(12), Math.min(1000, signs));
        }
        SoapTreaty x = new SoapTreaty();
        Check.feed(x, " ".repeat(999));
        CHECK.due("P2 signs left out take no room", x.feed(-1, 0, 0x7F2000000000000AL), 1000);
        CHECK.due("P2 the 1,001st", x.feed(0x2300000000000000L, 0, 0), 1000);
        CHECK.due("P2 it was left out", x.congress(), 0);
        CHECK.due("P2 the first are kept", Check.feed(x, " ".repeat(991) + "sliver 9;sliver 8;"), 1000);
        CHECK.due("P2 up to the 1,000th", x.congress(), 0);
        CHECK.due("P2 sliver 9", x.count(2), 9);
        CHECK.due("P2 one too far", Check.feed(x, " ".repeat(992) + "sliver 7;"), 1000);
        CHECK.due("P3 the end is at the text's length, 1,000", x.congress(), Check.fault(1, 1000));
        CHECK.due("P3 sliver 9 stays", x.count(2), 9);
        Check.feed(x, " ".repeat(999) + "#");
        CHECK.due("P3 a token at place 999", x.congress(), Check.fault(1, 999));
        Check.feed(x, " ".repeat(992) + "abcdefghi");
        CHECK.due("P2 the ninth letter is left out", x.congress(), Check.fault(1, 992));
        Check.feed(x, "power " + " ".repeat(986) + "abcdefghi");
        CHECK.due("P2 a word of eight then", x.congress(), Check.fault(1, 1000));
    }

    private static void tapeTaken() {
        String[] texts = {"sliver 3;", "sliver 0;", "week;", "weak;", ""};
        for (String text : texts) {
            SoapTreaty x = new SoapTreaty();
            Check.feed(x, text);
            CHECK.due("P2 feed counts the tape", x.count(12), text.length());
            x.congress();
            CHECK.due("P3 a congress takes the tape: " + text, x.count(12), 0);
            CHECK.due("P2 it begins anew", x.feed(0x2000000000000000L, 0, 0), 1);
            x.years();
            CHECK.due("P4 years take the tape", x.count(12), 0);
            Check.feed(x, text);
            x.years();
            CHECK.due("P4 years take the tape: " + text, x.count(12), 0);
            CHECK.due("P4 a taken tape is read as nothing", x.years(), 0);
        }
        SoapTreaty y = Check.told(TWO + CAKE);
        y.wash(0);
        Check.years(y, "week;");
        String before = Check.all(y);
        Check.feed(y, "power z dry water 1;");
        CHECK.stays("P2 feed changes nothing but the tape", y, before);
    }

    // ---- tokens

    private static void congressFault(String promise, String text, int kind, int place) {
        CHECK.due(promise + ": " + text, Check.congress(new SoapTreaty(), text), Check.fault(kind, place));
    }

    private static void congressFits(String promise, String text) {
        CHECK.due(promise + ": " + text, Check.congress(new SoapTreaty(), text), 0);
    }

    private static void words() {
        congressFits("P3 a word of 1", "power z dry water 1;");
        congressFits("P3 a word of 8", "power abcdefgh dry water 1;");
        congressFault("P3 a word of 9", "power abcdefghi dry water 1;", 1, 6);
        congressFault("P3 a long word", "power " + "z".repeat(40) + " dry water 1;", 1, 6);
        congressFault("P3 a word of 9 that begins as another", "sliversss 3;", 1, 0);
        congressFault("P3 as long as can be", "powerz dry water 1;", 1, 0);
        congressFault("P3 as long as can be", "power z drywater 1;", 1, 8);
        congressFits("P3 a number right behind a word", "power z dry water1;sliver9;");
        congressFits("P3 all of a word counts", "power abcdefgh dry water 1;power abcdefgi dry water 1;power bbcdefgh dry water 1;");
        congressFits("P3 a shorter word is another", "power abcdefgh dry water 1;power abcdefg dry water 1;power bcdefgh dry water 1;");
        congressFits("P3 longer than a word kept", "power powers dry water 1;power tos dry water 1;power ando dry water 1;");
        congressFits("P3 shorter than a word kept", "power powe dry water 1;power t dry water 1;power carve dry water 1;");
        for (char letter = 'a'; letter <= 'z'; letter++) {
            String one = "" + letter;
            congressFits("P3 a word of more letters is another", "power " + one + " dry water 1;power " + one + one + " dry water 1;"
                + "power a" + one + one + " dry water 1;power c" + one + "c dry water 1;power " + one.repeat(8) + " dry water 1;");
        }
        congressFault("P3 a capital is none", "Power z dry water 1;", 1, 0);
        congressFault("P3 a capital ends a word", "power zA dry water 1;", 1, 7);
    }

    private static void numbers() {
        congressFits("P3 a number of 1", "sliver 3;");
        congressFits("P3 a number of 4", "sliver 0003;");
        congressFault("P3 a number of 5", "sliver 00003;", 1, 7);
        congressFault("P3 a long number", "sliver 00000000000000000000000000000000003;", 1, 7);
        congressFault("P3 a number of 5 in E", "wears 1+10000;", 1, 8);
        congressFits("P3 a number of 4 in E", "wears 1+9999;");
        congressFits("P3 a letter right behind a number", "wears 1and 2or 3;");
        congressFits("P3 a letter right behind a number", TWO + "cake c from a to b thick 10hard 4;");
        congressFault("P3 a letter right behind one of 5", "wears 12345and 2;", 1, 6);
        congressFault("P3 a number right behind a word right behind a number", "wears 1and10000;", 1, 10);
        congressFault("P3 as long as can be", "wears 1 2;", 1, 8);
        congressFault("P3 no sign before a number", "sliver +3;", 1, 7);
    }

    /** Each sign behind the 1 of a law: which can stand there, and where it is wrong if it can't. */
    private static void signsOfTokens() {
        for (int sign = 33; sign <= 126; sign++) {
            char c = (char) sign;
            boolean joins = "<=+-*".indexOf(c) >= 0;
            if (joins) {
                congressFits("P3 a sign that joins", "wears 1 " + c + " 1;");
            } else if (c == ';') {
                congressFault("P3 the sign that ends", "wears 1 " + c + " 1;", 1, 10);
            } else {
                congressFault("P3 a sign that can't stand there", "wears 1 " + c + " 1;", 1, 8);
            }
            congressFault("P3 a sign that begins no line", c + ";", 1, 0);
        }
        congressFits("P3 ( and )", "wears ( 1 ) ;");
    }

    private static void blanks() {
        congressFits("P3 nothing", "");
        congressFits("P3 a blank", " ");
        congressFits("P3 a new line", "\n");
        congressFits("P3 blanks", " \n\n  \n");
        congressFits("P3 blanks between", "\n power\n\nz \ndry  water\n1 \n ;\n ");
        congressFits("P3 none where one likes", "wears(1+2)*3<left and(not(0));");
        congressFault("P3 a blank within a word", "pow er z dry water 1;", 1, 0);
        congressFault("P3 a blank within a number", "sliver 3 0;", 1, 9);
        congressFault("P3 blanks have places", " \n #", 1, 3);
        congressFault("P3 blanks at the end have places", "sliver 3 \n ", 1, 11);
        congressFault("P3 nothing behind", "sliver 3", 1, 8);
    }

    /** Cut behind each token but the last, a text's end is wrong; each token that is none is wrong at its first sign. */
    private static void everyPlace(boolean years, String before, String statement) {
        String[] tokens = statement.split(" ");
        StringBuilder text = new StringBuilder(before);
        for (int i = 0; i < tokens.length; i++) {
            int place = text.length();
            if (i > 0) {
                oneFault(years, text.toString(), place);
                oneFault(years, text + "\n ", place + 2);
            }
            for (String none : NO_TOKENS) {
                String rest = statement.substring(place - before.length() + tokens[i].length());
                oneFault(years, text + none + rest, place);
            }
            text.append(tokens[i]).append(' ');
        }
        SoapTreaty x = Check.told(TWO + CAKE);
        CHECK.due("P3, P4 without a fault: " + text, years ? Check.years(x, text.toString()) : Check.congress(x, text.toString()), 0);
    }

    private static void oneFault(boolean years, String text, int place) {
        if (years) {
            CHECK.due("P4 " + text, Check.years(Check.told(TWO + CAKE), text), Check.fault(1, place));
        } else {
            congressFault("P3", text, 1, place);
        }
    }

    private static void everyPlaceOfACongress() {
        everyPlace(false, "", "power z carver water 1 ;");
        everyPlace(false, TWO, "cake c from a to b thick 10 hard 4 ;");
        everyPlace(false, TWO + CAKE, "pebble c 5 ;");
        everyPlace(false, "", "sliver 3 ;");
        everyPlace(false, "", "wears 1 + 2 - left * tough < ( wet or not used = 0 and 1 ) ;");
        everyPlace(false, "sliver 3;wears 1;", "power z dry water 9 ;");
    }

    // ---- names and the numbers told

    private static void names() {
        for (String word : KEPT) {
            congressFault("P3 a power's name is no word kept", "power " + word + " dry water 1;", 1, 6);
            congressFault("P3 a cake's name is no word kept", TWO + "cake " + word + " from a to b thick 1 hard 1;", 1, TWO.length() + 5);
            congressFault("P3 behind from", TWO + "cake c from " + word + " to b thick 1 hard 1;", 1, TWO.length() + 12);
            congressFault("P3 behind to", TWO + "cake c from a to " + word + " thick 1 hard 1;", 1, TWO.length() + 17);
            congressFault("P3 behind pebble", TWO + CAKE + "pebble " + word + " 1;", 1, (TWO + CAKE).length() + 7);
            boolean kind = "plain naval dry carver".contains(word) && word.length() > 2;
            if (kind) {
                congressFits("P3 a kind", "power z " + word + " water 1;");
            } else {
                congressFault("P3 no kind", "power z " + word + " water 1;", 1, 8);
            }
        }
        String[] facts = {"left", "tough", "wet", "used"};
        for (String word : facts) {
            congressFits("P3 a fact is no word kept", "power " + word + " dry water 1;");
            congressFits("P3 a fact is no word kept", TWO + "cake " + word + " from a to b thick 1 hard 1;pebble " + word + " 0;");
            congressFault("P3 a fact is no kind", "power z " + word + " water 1;", 1, 8);
        }
        congressFits("P3 facts from facts to facts",
            "power left dry water 1;power used dry water 1;cake wet from left to used thick 1 hard 1;wears wet+left;");
        congressFault("P3 a number is no name", "power 5 dry water 1;", 1, 6);
        congressFault("P3 a power is no fact", "power z dry water 1;wears z;", 1, 26);
    }

    private static void namesToldAlready() {
        int two = TWO.length();
        int three = (TWO + CAKE).length();
        congressFault("P3 two powers alike", TWO + "power b dry water 1;", 3, two + 6);
        congressFault("P3 a cake like a power", TWO + "cake b from a to b thick 1 hard 1;", 3, two + 5);
        congressFault("P3 a power like a cake", TWO + CAKE + "power c dry water 1;", 3, three + 6);
        congressFault("P3 two cakes alike", TWO + CAKE + "cake c from b to a thick 1 hard 1;", 3, three + 5);
        congressFits("P3 a cake's name is told by its own line alone", TWO + "cake c from a to b thick 1 hard 1;cake e from b to a thick 1 hard 1;");
        SoapTreaty x = Check.told(TWO + CAKE);
        CHECK.due("P3 names of the congress before are free", Check.congress(x, "power c dry water 1;power b plain water 2;cake a from c to b thick 1 hard 1;"), 0);
        CHECK.due("P3 a fault", Check.congress(x, "power z dry water 1;#"), Check.fault(1, 20));
        CHECK.due("P3 names behind a fault are free", Check.congress(x, "power z dry water 1;"), 0);
        CHECK.due("P4 names behind a fault are not told", Check.years(x, "wash a;"), Check.fault(2, 5));
    }

    private static void powersNamed() {
        int two = TWO.length();
        congressFault("P3 behind from no power", TWO + "cake c from z to b thick 1 hard 1;", 2, two + 12);
        congressFault("P3 behind to no power", TWO + "cake c from a to z thick 1 hard 1;", 2, two + 17);
        congressFault("P3 behind from a cake", TWO + CAKE + "cake e from c to b thick 1 hard 1;", 2, (TWO + CAKE).length() + 12);
        congressFault("P3 behind to a cake", TWO + CAKE + "cake e from a to c thick 1 hard 1;", 2, (TWO + CAKE).length() + 17);
        congressFault("P3 behind from its own name", TWO + "cake c from c to b thick 1 hard 1;", 2, two + 12);
        congressFault("P3 behind to its own name", TWO + "cake c from a to c thick 1 hard 1;", 2, two + 17);
        congressFault("P3 a power told behind it", "cake c from a to b thick 1 hard 1;" + TWO, 2, 12);
        congressFault("P3 a power told behind it", "power a dry water 1;cake c from a to b thick 1 hard 1;power b dry water 1;", 2, 37);
        congressFault("P3 to who sent it, the first power", TWO + "cake c from a to a thick 1 hard 1;", 3, two + 17);
        congressFault("P3 to who sent it, another", TWO + "cake c from b to b thick 1 hard 1;", 3, two + 17);
        congressFits("P3 the other way", TWO + "cake c from b to a thick 1 hard 1;");
    }

    private static void pebbles() {
        int at = (TWO + CAKE).length();
        congressFault("P3 a pebble in no cake", TWO + CAKE + "pebble z 1;", 2, at + 7);
        congressFault("P3 a pebble in a power", TWO + CAKE + "pebble a 1;", 2, at + 7);
        congressFault("P3 a pebble in a cake told behind it", TWO + "pebble c 1;" + CAKE, 2, TWO.length() + 7);
        congressFault("P3 a second pebble", TWO + CAKE + "pebble c 1;pebble c 2;", 3, at + 18);
        congressFault("P3 a second pebble, the first 0", TWO + CAKE + "pebble c 0;pebble c 0;", 3, at + 18);
        congressFault("P3 a second pebble is told before its number", TWO + CAKE + "pebble c 1;pebble c 99;", 3, at + 18);
        congressFits("P3 each once", TWO + CAKE + "cake e from b to a thick 1 hard 1;pebble e 1;pebble c 1;");
        congressFault("P3 a pebble in no cake at all", "pebble c 1;", 2, 7);
    }

    private static void ranged(String before, String behind, int least, int most) {
        for (int number : new int[] {least, least + 1, most - 1, most}) {
            congressFits("P3 " + least + " to " + most, before + number + behind);
        }
        congressFits("P3 " + least + " to " + most, before + "00" + most + behind);
        if (least > 0) {
            congressFault("P3 less than " + least, before + (least - 1) + behind, 4, before.length());
            congressFault("P3 less than " + least, before + "0000" + behind, 4, before.length());
        }
        congressFault("P3 more than " + most, before + (most + 1) + behind, 4, before.length());
        congressFault("P3 more than " + most, before + "00" + (most + 1) + behind, 4, before.length());
        congressFault("P3 more than " + most, before + "9999" + behind, 4, before.length());
        congressFault("P3 no number told at all", before + "10000" + behind, 1, before.length());
    }

    private static void numbersTold() {
        ranged("power z dry water ", ";", 0, 9);
        ranged(TWO + "cake c from a to b thick ", " hard 1;", 1, 40);
        ranged(TWO + "cake c from a to b thick 1 hard ", ";", 0, 9);
        ranged(TWO + CAKE + "pebble c ", ";", 0, 39);
        ranged("sliver ", ";", 1, 9);
        SoapTreaty x = Check.told("power y dry water 0;power z dry water 9;cake c from y to z thick 40 hard 0;"
            + "cake e from z to y thick 0001 hard 9;sliver 9;");
        CHECK.due("P5 water 0", x.power(0, 1), 0);
        CHECK.due("P5 water 9", x.power(1, 1), 9);
        CHECK.due("P6 thick 40", x.cake(0, 2), 40);
        CHECK.due("P6 thick 1", x.cake(1, 2), 1);
        CHECK.due("P6 hard 0", x.cake(0, 6), 0);
        CHECK.due("P6 hard 9", x.cake(1, 6), 9);
        CHECK.due("P33 sliver 9", x.count(2), 9);
        CHECK.due("P33 sliver 1", Check.told("sliver 1;").count(2), 1);
        CHECK.due("P33 sliver 2 if none is told", Check.told(TWO).count(2), 2);
    }

    private static void onceEach() {
        congressFault("P3 sliver a second time", "sliver 3;sliver 3;", 3, 9);
        congressFault("P3 sliver a second time, later", "sliver 2;" + TWO + CAKE + "sliver 2;", 3, 9 + (TWO + CAKE).length());
        congressFault("P3 wears a second time", "wears 1;wears 1;", 3, 8);
        congressFault("P3 wears a second time, the first 0", "wears 0;" + TWO + "wears 0;", 3, 8 + TWO.length());
        congressFault("P3 the word is wrong, not what is behind it", "sliver 3;sliver 99;", 3, 9);
        congressFault("P3 the word is wrong, not what is behind it", "wears 1;wears #;", 3, 8);
        congressFits("P3 both", "wears 1;sliver 1;");
        SoapTreaty x = Check.told("sliver 5;wears 1;");
        CHECK.due("P3 once each in another congress, too", Check.congress(x, "wears 2;sliver 6;"), 0);
        CHECK.due("P33 sliver 6", x.count(2), 6);
    }

    private static String powers(int number) {
        StringBuilder text = new StringBuilder();
        for (int i = 0; i < number; i++) {
            text.append("power ").append((char) ('a' + i)).append(" dry water ").append(i).append(';');
        }
        return text.toString();
    }

    private static String cakes(int number) {
        StringBuilder text = new StringBuilder();
        for (int i = 0; i < number; i++) {
            text.append("cake ").append((char) ('p' + i)).append(" from a to b thick ").append(1 + i).append(" hard 0;");
        }
        return text.toString();
    }

    private static void fiveAndSeven() {
        for (int number = 0; number <= 5; number++) {
            CHECK.due("P3 powers: 5 at most", Check.told(powers(number)).count(0), number);
        }
        congressFault("P3 a sixth power: the word", powers(6), 5, powers(5).length());
        congressFault("P3 a sixth power, whatever is behind", powers(5) + "power", 5, powers(5).length());
        congressFault("P3 a sixth power, whatever is behind", powers(5) + "power # a", 5, powers(5).length());
        congressFault("P3 a sixth power, told behind cakes", powers(5) + cakes(2) + "power z dry water 1;", 5, (powers(5) + cakes(2)).length());
        for (int number = 0; number <= 7; number++) {
            CHECK.due("P3 cakes: 7 at most", Check.told(powers(2) + cakes(number)).count(1), number);
        }
        congressFault("P3 an eighth cake: the word", powers(2) + cakes(8), 5, (powers(2) + cakes(7)).length());
        congressFault("P3 an eighth cake, whatever is behind", powers(2) + cakes(7) + "cake", 5, (powers(2) + cakes(7)).length());
        SoapTreaty x = Check.told(powers(5) + cakes(7));
        for (int power = 0; power < 5; power++) {
            CHECK.due("P5 numbered as told", x.power(power, 1), power);
        }
        for (int cake = 0; cake < 7; cake++) {
            CHECK.due("P6 numbered as told", x.cake(cake, 2), 1 + cake);
        }
        CHECK.due("P5 no power 5", x.power(5, 1), -1);
        CHECK.due("P6 no cake 7", x.cake(7, 2), -2);
    }

    private static void theFirstAndTheLeast() {
        int two = TWO.length();
        congressFault("P3 the first from the left, though the second is less", TWO + "cake c from a to b thick 41 hard #", 4, two + 25);
        congressFault("P3 the first from the left, though the second is less", TWO + "cake a from z to z", 3, two + 5);
        congressFault("P3 the first from the left", TWO + "cake c from z to z", 2, two + 12);
        congressFault("P3 the first from the left", "sliver 0;#", 4, 7);
        congressFault("P3 a number that is none before one that is not as told", "sliver 99999;", 1, 7);
        congressFault("P3 a word kept before a name of no power", TWO + "cake c from power to b", 1, two + 12);
        congressFault("P3 what can't stand there before one too many", "wears (((((;", 1, 11);
        congressFault("P3 what can't stand there before one too many", "wears ((((()", 1, 11);
        congressFault("P3 what can't stand there before one too many", "wears not not not not not and", 1, 26);
        congressFault("P3 what can't stand there before one too many", "wears not not not not not", 1, 25);
        CHECK.due("P4 what begins no line before one too many", Check.years(new SoapTreaty(), "week;".repeat(40) + ";"), Check.fault(1, 200));
        CHECK.due("P4 what is none before one too many", Check.years(new SoapTreaty(), "week;".repeat(40) + "#"), Check.fault(1, 200));
        CHECK.due("P4 a name before one too many", Check.years(new SoapTreaty(), "week;".repeat(40) + "cake"), Check.fault(1, 200));
    }

    // ---- E

    /** How much a plain power's cake of 40 wears at first: its hardness is 3, the water 7. */
    private static void law(String sentence, String law, int due) {
        SoapTreaty x = Check.told("power a plain water 7;power b dry water 2;cake c from b to a thick 40 hard 3;wears " + law + ";");
        CHECK.due("P3, P7 " + sentence + ": " + law, 40 - x.wash(0), due);
    }

    private static void valuesOfE() {
        for (int number = 0; number <= 9; number++) {
            law("0 to 9", "" + number, number);
        }
        law("9 at most", "10", 9);
        law("9 at most", "9999", 9);
        law("0 at least", "0-1", 0);
        law("0 at least", "0-9999", 0);
        law("not of 0", "5*not 0", 5);
        law("not of 1", "5*not 1", 0);
        law("not of what is not 0", "5*not 7", 0);
        law("not of what is below 0", "5*not(0-1)", 0);
        law("and", "5*(2 and 3)", 5);
        law("and, the first 0", "5*(0 and 3)", 0);
        law("and, the second 0", "5*(2 and 0)", 0);
        law("and of what is below 0", "5*(0-2 and 0-3)", 5);
        law("or", "5*(2 or 3)", 5);
        law("or, the first alone", "5*(2 or 0)", 5);
        law("or, the second alone", "5*(0 or 0-2)", 5);
        law("or, none", "5*(0 or 0)", 0);
        law("less", "5*(2<3)", 5);
        law("not less: the same", "5*(3<3)", 0);
        law("not less: more", "5*(4<3)", 0);
        law("less below 0", "5*(0-4<0-3)", 5);
        law("the same", "5*(3=3)", 5);
        law("one more is not the same", "5*(4=3)", 0);
        law("one less is not the same", "5*(2=3)", 0);
        law("the same below 0", "5*(0-3=1-4)", 5);
    }

    private static void wrappedE() {
        String highest = "(8192*8192*32-1)";
        law("ints wrap: 2 to the 31st is below 0", "5*(8192*8192*32<0)", 5);
        law("the lowest less 1 is above 0", "5*(0<8192*8192*32-1)", 5);
        law("2 to the 32nd is 0", "5*(8192*8192*64=0)", 5);
        law("the highest and 1", "5*(" + highest + "+1<0)", 5);
        law("the lowest less 1 is the highest", "5*(8192*8192*32-1=" + highest + ")", 5);
        law("the highest times itself is 1", highest + "*" + highest + "+4", 5);
        law("no more than an int before it is cut", "8192*8192*64+8", 8);
        law("the lowest, cut", "8192*8192*32", 0);
        law("the highest, cut", highest, 9);
    }

    private static void factsOfE() {
        law("left", "left-36", 4);
        law("tough", "tough", 3);
        law("wet", "wet", 7);
        law("used, 0 at first", "used", 0);
        SoapTreaty x = Check.told("power a plain water 7;power b dry water 2;cake c from b to a thick 40 hard 3;wears wet-used;");
        CHECK.due("P7 wet is the water of whose it is", x.wash(0), 33);
        CHECK.due("P7 used once", x.wash(0), 27);
        x.gift(0, 1);
        CHECK.due("P7 wet is the water of whose it is then", x.wash(0), 27);
        x.gift(0, 0);
        CHECK.due("P7 used thrice", x.wash(0), 23);
        SoapTreaty y = Check.told("power a plain water 7;power b dry water 2;cake c from b to a thick 20 hard 3;wears left-16;");
        CHECK.due("P7 left is how thick it is before", y.wash(0), 16);
        CHECK.due("P7 left is how thick it is then", y.wash(0), 16);
        SoapTreaty z = Check.told("power a plain water 7;power b dry water 2;cake c from b to a thick 20 hard 3;"
            + "cake e from b to a thick 9 hard 8;wears tough;");
        CHECK.due("P7 tough is the cake's own", z.wash(1), 1);
        CHECK.due("P7 tough is the cake's own", z.wash(0), 17);
    }

    private static void shapesOfE() {
        law("* before +", "1+2*3", 7);
        law("* before -", "9-2*3", 3);
        law("+ before <", "5*(1+1<1+2)", 5);
        law("+ before =", "1+1=2", 1);
        law("< before and", "1<2 and 2", 1);
        law("and, or from the left", "1 or 1 and 0", 0);
        law("and, or from the left", "0 and 0 or 1", 1);
        law("- from the left", "9-3-2", 4);
        law("- and + from the left", "9-3+2", 8);
        law("* from the left", "2*2*2", 8);
        law("not is of one part alone", "not 0*5", 5);
        law("not is of one part alone", "not 0+5", 6);
        law("not of ( )", "not(0*5)+5", 6);
        law("( ) first", "2*(1+3)", 8);
        law("a whole E in ( )", "4+(1<2 and 3=3 or 0)", 5);
        congressFault("P3 one < alone", "wears 1<2<3;", 1, 9);
        congressFault("P3 one = alone", "wears 1=2=3;", 1, 9);
        congressFault("P3 = behind <", "wears 1<2=3;", 1, 9);
        congressFits("P3 a second in the next test", "wears 1<2 and 2<3;");
        congressFits("P3 a second within ( )", "wears 1<(2<3);");
        congressFault("P3 an empty E", "wears ;", 1, 6);
        congressFault("P3 an empty ( )", "wears ();", 1, 7);
        congressFault("P3 no ( before )", "wears 1);", 1, 7);
        congressFault("P3 no ) behind (", "wears (1;", 1, 8);
        congressFault("P3 no sign before a part", "wears -1;", 1, 6);
        congressFault("P3 not joins nothing", "wears 1 not 2;", 1, 8);
        congressFault("P3 two parts", "wears left used;", 1, 11);
        congressFault("P3 nothing behind and", "wears 1 and;", 1, 11);
        congressFault("P3 nothing behind not", "wears not;", 1, 9);
    }

    private static void depthOfE() {
        law("within 4", "((((6))))", 6);
        law("within 4", "5+not not not not 6", 6);
        law("within 4, again and again", "((((1))))+((((2))))*not(not(3))", 3);
        law("a fact within 4", "((((tough))))", 3);
        congressFault("P3 a number within 5", "wears (((((6)))));", 5, 11);
        congressFault("P3 a fact within 5", "wears (((((used)))));", 5, 11);
        congressFault("P3 a not within 5", "wears (((((not 6)))));", 5, 11);
        congressFault("P3 a ( within 5", "wears ((((((6))))));", 5, 11);
        congressFault("P3 a number within 5 of not", "wears not not not not not 6;", 5, 26);
        congressFault("P3 a not within 5 of not", "wears not not not not not not", 5, 26);
        congressFault("P3 a ( within 5 of not", "wears not not not not not (", 5, 26);
        congressFault("P3 within 5 of both", "wears not(not(not 6));", 5, 18);
        congressFault("P3 within 5 of both", "wears (not(not(6)));", 5, 15);
        congressFault("P3 a later part within 5", "wears ((((1+(2)))));", 5, 13);
        congressFits("P3 a later part within 4", "wears ((((1+2))));");
        congressFault("P3 within 5 behind what was within 4", "wears ((((1))))+(((((1)))));", 5, 21);
    }

    private static void usualLaw() {
        for (int hard = 0; hard <= 9; hard++) {
            SoapTreaty x = Check.told("power a plain water 5;power b dry water 2;cake c from b to a thick 40 hard " + hard + ";");
            CHECK.due("P3, P7 without wears: 1 + (tough < wet), tough " + hard, 40 - x.wash(0), hard < 5 ? 2 : 1);
        }
        SoapTreaty x = Check.told("power a plain water 5;power b dry water 2;cake c from b to a thick 40 hard 0;wears 7;");
        CHECK.due("P7 with wears", x.wash(0), 33);
        CHECK.due("P3 another congress", Check.congress(x, "power a plain water 5;power b dry water 2;cake c from b to a thick 40 hard 0;"), 0);
        CHECK.due("P7 the law of the congress before is gone", x.wash(0), 38);
    }

    // ---- promise 3

    /** Everything that can be done is done, so that all of it can be looked for afterwards. */
    private static SoapTreaty busy() {
        SoapTreaty x = Check.told(TWO + CAKE + "cake e from b to a thick 9 hard 1;pebble c 9;sliver 7;wears 3;");
        Check.years(x, "week;wash c;press c;press c;");
        x.week();
        x.press(1);
        x.gift(0, 0);
        x.hair(0);
        x.see(0, 3, 9);
        for (int mark = 0; mark < 4; mark++) {
            x.mark(mark, false);
        }
        return x;
    }

    private static void congressBegins() {
        SoapTreaty x = busy();
        CHECK.row("P33 count", x::count, 0, 2, 2, 7, 1, 6, 9, 1, 0, 0, 4, 1, 4, 0);
        CHECK.due("P3 the same again", Check.congress(x, TWO + CAKE + "cake e from b to a thick 9 hard 1;"), 0);
        CHECK.row("P3 as it begins, count", x::count, 0, 2, 2, 2, 0, 0, 19, 3, 0, 0, 0, 0, 0, 0);
        CHECK.row("P3 as it begins, cake 0,", what -> x.cake(0, what), 0, 0, 1, 10, 0, 0, -1, 4);
        CHECK.row("P3 as it begins, cake 1,", what -> x.cake(1, what), 0, 1, 0, 9, 0, 0, -1, 1);
        CHECK.row("P3 no years to judge", x::judged, 0, -1, -1, 0);
        CHECK.row("P3 nothing seen", x::sets, 0, 4, 0, 3);
        CHECK.due("P3 nothing can be undone", x.undo(), false);
        for (int mark = 0; mark < 4; mark++) {
            CHECK.due("P3 no mark is there: " + mark, x.mark(mark, true), false);
        }
        SoapTreaty y = busy();
        CHECK.due("P3 nothing told", y.congress(), 0);
        CHECK.row("P3 nothing is there, count", y::count, 0, 0, 0, 2, 0, 0, 0, 0, 0, 0, 0, 0, 0, 0);
        CHECK.due("P3 no power", y.power(0, 0), -1);
        CHECK.due("P3 no cake", y.cake(0, 0), -2);
        CHECK.due("P3 nothing can be undone", y.undo(), false);
    }

    private static void congressFaultStays() {
        String[] texts = {"#", "power z dry water 10;", "power z dry water 1;sliver 8;wears 9;x", TWO + CAKE + "pebble c 1",
            powers(6), "wears (((((1", TWO + "cake c from a to a thick 1 hard 1;"};
        for (String text : texts) {
            SoapTreaty x = busy();
            String before = Check.all(x);
            CHECK.due("P3 a fault: " + text, Check.congress(x, text) != 0, true);
            CHECK.stays("P3 all stays behind a fault", x, before);
            CHECK.due("P3 the names stay", Check.years(x, "gift e b;"), 0);
            CHECK.due("P3 what can be undone stays", x.undo() && x.undo() && x.undo() && x.undo(), true);
            CHECK.due("P3 no more than that", x.undo(), false);
            CHECK.due("P3 the law stays", x.wash(1), 6);
            for (int mark = 0; mark < 4; mark++) {
                CHECK.due("P3 the marks stay: " + mark, x.mark(mark, true), true);
            }
            CHECK.due("P3 how it was on the mark", x.count(4), 6);
        }
    }

    // ---- promise 4

    private static void everyPlaceOfYears() {
        everyPlace(true, "", "wash c ;");
        everyPlace(true, "", "hair c ;");
        everyPlace(true, "", "pick c ;");
        everyPlace(true, "", "gift c a ;");
        everyPlace(true, "", "press c ;");
        everyPlace(true, "", "week ;");
        everyPlace(true, "week;wash c;", "gift c b ;");
    }

    private static void yearsFault(String promise, String text, int kind, int place) {
        CHECK.due(promise + ": " + text, Check.years(Check.told(TWO + CAKE), text), Check.fault(kind, place));
    }

    private static void namesInYears() {
        String[] acts = {"wash", "hair", "pick", "gift", "press"};
        for (String act : acts) {
            String behind = act.equals("gift") ? " a;" : ";";
            int place = act.length() + 1;
            CHECK.due("P4 " + act + " a cake", Check.years(Check.told(TWO + CAKE), act + " c" + behind), 0);
            yearsFault("P4 no cake", act + " z" + behind, 2, place);
            yearsFault("P4 a power is no cake", act + " a" + behind, 2, place);
            yearsFault("P4 a number is no name", act + " 1" + behind, 1, place);
            CHECK.due("P4 no cake at first", Check.years(new SoapTreaty(), act + " c" + behind), Check.fault(2, place));
            for (String word : KEPT) {
                yearsFault("P4 a word kept is no name", act + " " + word + behind, 1, place);
            }
        }
        yearsFault("P4 the second of gift, no power", "gift c z;", 2, 7);
        yearsFault("P4 the second of gift, a cake", "gift c c;", 2, 7);
        yearsFault("P4 the second of gift, a word kept", "gift c to;", 1, 7);
        yearsFault("P4 the first of gift before the second", "gift a c;", 2, 5);
        CHECK.due("P4 a gift to whose it is can be told", Check.years(Check.told(TWO + CAKE), "gift c b;"), 0);
        yearsFault("P4 one name alone", "wash c c;", 1, 7);
        yearsFault("P4 two names alone", "gift c a b;", 1, 9);
        yearsFault("P4 week has no name", "week c;", 1, 5);
        for (String word : KEPT) {
            boolean act = "wash hair pick gift press week".contains(word);
            if (!act) {
                yearsFault("P4 begins no line", word + " c;", 1, 0);
            }
            boolean tells = "power cake pebble sliver wears".contains(word);
            if (!tells) {
                congressFault("P3 begins no line", word + " c;", 1, 0);
            }
        }
        SoapTreaty x = Check.told("power left dry water 1;power used plain water 1;cake wet from left to used thick 9 hard 1;");
        CHECK.due("P4 names that are facts", Check.years(x, "wash wet;gift wet left;"), 0);
    }

    private static void fortyLines() {
        for (int lines = 0; lines <= 40; lines++) {
            SoapTreaty x = new SoapTreaty();
            CHECK.due("P4 " + lines + " lines", Check.years(x, "week;".repeat(lines)), 0);
            CHECK.due("P33 lines of the years", x.count(9), lines);
        }
        String forty = "wash c;".repeat(40);
        String[] acts = {"wash c;", "hair c;", "pick c;", "gift c a;", "press c;", "week;"};
        for (String act : acts) {
            yearsFault("P4 a 41st line: its first word", forty + act, 5, 280);
            yearsFault("P4 a 41st line, whatever is behind", forty + act.substring(0, 4) + (act.startsWith("press") ? "s #" : " #"), 5, 280);
        }
        SoapTreaty x = Check.told(TWO + CAKE);
        Check.years(x, "week;wash c;");
        CHECK.due("P4 41 lines", Check.years(x, "week;".repeat(41)), Check.fault(5, 200));
        CHECK.due("P4 the years stay", x.count(9), 2);
        CHECK.due("P4 40 lines on an object that was told 41", Check.years(x, "week;".repeat(40)), 0);
        CHECK.due("P33 40 lines", x.count(9), 40);
    }

    private static void yearsAreTheYears() {
        SoapTreaty x = busy();
        String before = Check.all(x);
        CHECK.due("P4 a fault", Check.years(x, "week;week;wash e;press e;x"), Check.fault(1, 25));
        CHECK.stays("P4 all stays behind a fault", x, before);
        SoapTreaty y = busy();
        CHECK.due("P4 other years", Check.years(y, "wash e;press e;"), 0);
        CHECK.row("P14 they are the years now", y::judged, 0, -1, -1, 6);
        CHECK.row("P4 nothing else is changed, count", y::count, 0, 2, 2, 7, 1, 6, 9, 1, 0, 0, 2, 1, 4, 0);
        CHECK.due("P4 no line", y.years(), 0);
        CHECK.row("P14 none to judge", y::judged, 0, -1, -1, 0);
        CHECK.due("P4 the marks stay, with the years on them", y.mark(0, true), true);
        CHECK.due("P32 four lines", y.count(9), 4);
        CHECK.due("P4 a fault far from all", Check.years(new SoapTreaty(), "wash"), Check.fault(1, 4));
        CHECK.due("P4 week alone can be told at first", Check.years(new SoapTreaty(), "week;"), 0);
    }
}
