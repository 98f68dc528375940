import java.util.ArrayList;
import java.util.List;
import java.util.NoSuchElementException;
import java.util.Random;

/** Random runs of calls, each answered by the class and by the model. */
final class FuzzTest {
    private static final int RUNS = 1500;
    private static final int CALLS = 150;
    /** An object is used for 512 calls; a text takes up to 43 to feed it, one to read it, and two questions behind it. */
    private static final int LAST_CALL = 512 - 46;
    private static final int LONGEST_TEXT = 43 * 24;
    private static final int TEXTS = 30000;
    private static final int THROWN = -1000;

    private final Random random;
    private final List<String> trail = new ArrayList<>();
    private SoapTreaty soap = new SoapTreaty();
    private Model model = new Model();
    private int wrong = 0;
    private int calls = 0;

    private FuzzTest(long seed) {
        random = new Random(seed);
    }

    public static void main(String[] args) {
        int runs = args.length > 0 ? Integer.parseInt(args[0]) : RUNS;
        long first = args.length > 1 ? Long.parseLong(args[1]) : 0;
        int wrong = 0;
        for (int run = 0; run < runs && wrong == 0; run++) {
            wrong += new FuzzTest(first + run).play();
        }
        wrong += new FuzzTest(first + runs).readMany(args.length > 0 ? runs * 20 : TEXTS);
        System.out.println("FuzzTest: " + runs + " runs, " + wrong + " wrong");
        if (wrong != 0) {
            System.exit(1);
        }
    }

    private int below(int bound) {
        return random.nextInt(bound);
    }

    private String pick(String... words) {
        return words[below(words.length)];
    }

    // ---- texts

    private String powerName(int power) {
        return new String[] {"pa", "left", "pc", "abcdefgh", "pe", "pf"}[power];
    }

    private String cakeName(int cake) {
        return new String[] {"ca", "cb", "wet", "cd", "ce", "hgfedcba", "cg", "ch"}[cake];
    }

    private String part(int depth) {
        int kind = below(depth >= 4 ? 6 : 10);
        if (kind < 2) {
            return "" + below(below(8) == 0 ? 10000 : 12);
        }
        if (kind < 6) {
            return pick("left", "tough", "wet", "used");
        }
        return kind < 7 ? "not " + part(depth + 1) : "(" + expression(depth + 1) + ")";
    }

    private String chain(int depth, int level) {
        StringBuilder text = new StringBuilder(level == 0 ? part(depth) : chain(depth, level - 1));
        int more = below(4) == 0 ? 1 + below(2) : 0;
        for (int i = 0; i < (level == 2 ? Math.min(1, more) : more); i++) {
            text.append(level == 0 ? "*" : level == 1 ? pick("+", "-") : level == 2 ? pick("<", "=") : pick(" and ", " or "));
            text.append(level == 0 ? part(depth) : chain(depth, level - 1));
        }
        return text.toString();
    }

    private String expression(int depth) {
        return chain(depth, 3);
    }

    private String gap() {
        return pick("", "", " ", "\n", "  ");
    }

    private String congress() {
        StringBuilder text = new StringBuilder();
        int powers = below(12) == 0 ? below(3) : 2 + below(4);
        for (int p = 0; p < powers; p++) {
            String kind = pick("plain", "naval", "dry", "carver", "plain", "naval");
            text.append(gap()).append("power ").append(powerName(p)).append(' ').append(kind).append(" water ")
                .append(below(10)).append(gap()).append(';');
        }
        int cakes = powers < 2 ? 0 : below(12) == 0 ? below(8) : 3 + below(5);
        for (int c = 0; c < cakes; c++) {
            int from = below(powers);
            int to = (from + 1 + below(powers - 1)) % powers;
            text.append("cake ").append(cakeName(c)).append(" from ").append(powerName(from)).append(" to ")
                .append(powerName(to)).append(" thick ").append(1 + below(40)).append("hard ").append(below(10)).append(';');
            if (below(2) == 0) {
                text.append("pebble ").append(cakeName(c)).append(' ').append(below(40)).append(';');
            }
        }
        if (below(2) == 0) {
            text.append("sliver ").append(1 + below(9)).append(';').append(gap());
        }
        if (below(2) == 0) {
            text.append("wears ").append(expression(0)).append(';');
        }
        return text.toString();
    }

    private String years() {
        StringBuilder text = new StringBuilder();
        int cakes = Math.max(1, model.count(1));
        int lines = below(8) == 0 ? below(43) : below(15);
        for (int i = 0; i < lines && text.length() < 960; i++) {
            String act = pick("wash", "hair", "pick", "gift", "press", "week", "wash", "week");
            text.append(act);
            if (!act.equals("week")) {
                text.append(' ').append(cakeName(below(cakes)));
            }
            if (act.equals("gift")) {
                text.append(' ').append(powerName(below(Math.max(1, model.count(0)))));
            }
            text.append(gap()).append(';');
        }
        return text.toString();
    }

    private String stray() {
        return pick("power", "water", "cake", "pebble ca 3;", "sliver 3;", "wears 1;", "not", "and", "or", "(", ")",
            "<", "=", "*", ";", "-", "12345", "0", "99", "10", "40", "41", "abcdefghi", "A", "week", "from", "pa", "ca",
            "left", "#", "((((((", "(((((", "not not not not not ", "power z dry water 1;", " ", "\n", "dry", "thick", "_",
            "used", "pebble cb 3; pebble cb 4;", "cake ca from pa to left thick 3 hard 3;", "power pa dry water 2;");
    }

    private String spoilt(String text) {
        StringBuilder s = new StringBuilder(text);
        int way = below(6);
        int at = below(s.length() + 1);
        if (way == 0) {
            s.insert(at, stray());
        } else if (way == 1) {
            s.insert(at, " " + stray() + " ");
        } else if (way == 2) {
            s.replace(at, Math.min(s.length(), at + 1 + below(6)), pick("", stray()));
        } else if (way == 3) {
            return spoiltWord(text, stray());
        } else if (way == 4) {
            return spoiltWord(text, null);
        } else {
            String[] lines = text.split(";");
            s.insert(Math.max(0, s.lastIndexOf(";", at) + 1), lines[below(lines.length)] + ";");
        }
        return s.toString();
    }

    /** One word or number becomes another one, of the text itself if none is told. */
    private String spoiltWord(String text, String other) {
        String[] words = text.split("(?<=[a-z0-9])(?=[^a-z0-9])|(?<=[^a-z0-9])(?=[a-z0-9])");
        int from = below(words.length);
        int to = below(words.length);
        words[to] = other == null ? words[from] : " " + other + " ";
        return String.join("", words);
    }

    // ---- calls

    private void compare(String call, long got, long want) {
        calls++;
        trail.add(call + " -> " + want);
        if (got != want && wrong == 0) {
            wrong++;
            for (String step : trail) {
                System.out.println("  " + step);
            }
            System.out.println(call + " answered " + got + ", the model says " + want);
        }
    }

    private void compare(String call, boolean got, boolean want) {
        compare(call, got ? 1 : 0, want ? 1 : 0);
    }

    private void feed(String all) {
        String text = all.substring(0, Math.min(LONGEST_TEXT, all.length()));
        for (int at = 0; at < text.length(); at += 24) {
            long a = Check.eight(text, at);
            long b = Check.eight(text, at + 8);
            long c = Check.eight(text, at + 16);
            compare("feed(" + text.substring(at, Math.min(text.length(), at + 24)) + ")", soap.feed(a, b, c), model.feed(a, b, c));
        }
    }

    private void readCongress(String text) {
        feed(text);
        compare("congress()", soap.congress(), model.congress());
    }

    private void readYears(String text) {
        feed(text);
        compare("years()", soap.years(), model.years());
    }

    private int readMany(int texts) {
        for (int i = 0; i < texts && wrong == 0; i++) {
            if (calls > LAST_CALL) {
                beginAnew();
            }
            if (i % 3 == 0) {
                readYears(spoilt(years()));
            } else {
                readCongress(spoilt(congress()));
            }
            compare("count(1)", soap.count(1), model.count(1));
            compare("count(9)", soap.count(9), model.count(9));
        }
        return wrong;
    }

    private void beginAnew() {
        trail.clear();
        calls = 0;
        soap = new SoapTreaty();
        model = new Model();
        readCongress(congress());
    }

    private int play() {
        readCongress(congress());
        for (int call = 0; call < CALLS && calls < LAST_CALL && wrong == 0; call++) {
            int cake = below(9) == 0 ? below(10) - 1 : below(Math.max(1, model.count(1)));
            int power = below(9) == 0 ? below(7) - 1 : below(Math.max(1, model.count(0)));
            int kind = below(100);
            if (kind < 30) {
                doSomething(kind, cake, power);
            } else if (kind < 38) {
                readSomething(kind - 30);
            } else if (kind < 60) {
                askNow(kind - 38, cake, power);
            } else {
                askAhead(kind - 60, cake);
            }
        }
        return wrong;
    }

    private void doSomething(int kind, int cake, int power) {
        if (kind < 8) {
            compare("wash(" + cake + ")", soap.wash(cake), model.wash(cake));
        } else if (kind < 11) {
            compare("hair(" + cake + ")", soap.hair(cake), model.hair(cake));
        } else if (kind < 14) {
            compare("pick(" + cake + ")", soap.pick(cake), model.pick(cake));
        } else if (kind < 18) {
            compare("gift(" + cake + "," + power + ")", soap.gift(cake, power), model.gift(cake, power));
        } else if (kind < 20) {
            compare("press(" + cake + ")", soap.press(cake), model.press(cake));
        } else if (kind < 24) {
            compare("week()", soap.week(), model.week());
        } else {
            compare("undo()", soap.undo(), model.undo());
        }
    }

    private void readSomething(int kind) {
        if (kind < 4) {
            String text = years();
            readYears(below(4) == 0 ? spoilt(text) : text);
        } else if (kind == 4 && below(3) == 0) {
            readCongress(congress());
        } else if (kind == 5) {
            readCongress(spoilt(congress()));
        } else {
            int mark = below(6) - 1;
            boolean back = below(2) == 0;
            compare("mark(" + mark + "," + back + ")", soap.mark(mark, back), model.mark(mark, back));
        }
    }

    private void askNow(int kind, int cake, int power) {
        if (kind < 6) {
            int what = below(8) - 1;
            compare("power(" + power + "," + what + ")", soap.power(power, what), model.power(power, what));
        } else if (kind < 12) {
            int what = below(9) - 1;
            compare("cake(" + cake + "," + what + ")", soap.cake(cake, what), model.cake(cake, what));
        } else if (kind < 18) {
            int what = below(15) - 1;
            compare("count(" + what + ")", soap.count(what), model.count(what));
        } else if (kind < 20) {
            int other = below(6) - 1;
            compare("earnest(" + power + "," + other + ")", soap.earnest(power, other), model.earnest(power, other));
        } else {
            compare("peace()", soap.peace(), model.peace());
            compare("blocs()", soap.blocs(), model.blocs());
            compare("devoted()", soap.devoted(), model.devoted());
        }
    }

    private void askAhead(int kind, int cake) {
        int what = below(5) - 1;
        switch (kind / 3) {
            case 0: compare("gone(" + cake + ")", soap.gone(cake), model.gone(cake)); break;
            case 1: compare("worn(" + cake + ")", soap.worn(cake), model.worn(cake)); break;
            case 2: compare("last()", soap.last(), model.last()); break;
            case 3: compare("best(" + cake + ")", soap.best(cake), model.best(cake)); break;
            case 4:
                int thick = below(4) == 0 ? below(203) : below(60);
                compare("pressing(" + thick + ")", soap.pressing(thick), model.pressing(thick));
                break;
            case 5:
                int weeks = below(63) - 1;
                compare("pacts(" + weeks + ")", soap.pacts(weeks), model.pacts(weeks));
                compare("soonest()", soap.soonest(), model.soonest());
                break;
            case 6: see(cake); break;
            case 7:
                compare("sets(" + what + ")", soap.sets(what), model.sets(what));
                break;
            case 8:
                int then = below(22);
                compare("ask(" + then + ")", soap.ask(then), model.ask(then));
                break;
            case 9:
                int odds = below(13) - 1;
                int some = below(8);
                compare("chance(" + cake + "," + some + "," + odds + ")", soap.chance(cake, some, odds), model.chance(cake, some, odds));
                break;
            case 10: rests(); break;
            case 11:
                int seed = below(10002) - 1;
                int reign = below(101);
                compare("reigns(" + seed + "," + reign + "," + what + ")", soap.reigns(seed, reign, what), model.reigns(seed, reign, what));
                break;
            default:
                compare("judged(" + what + ")", soap.judged(what), model.judged(what));
                break;
        }
    }

    /** Half of what is seen is what would be there, so that sets are left. */
    private void see(int cake) {
        int weeks = below(22);
        int thick = below(42) - 1;
        int now = model.cake(cake, 2);
        if (below(4) != 0 && now >= 0 && weeks > 0) {
            int by = model.gone(cake);
            thick = below(2) == 0 || by == -1 ? now : weeks >= by ? 0 : thickAhead(cake, weeks);
        }
        compare("see(" + cake + "," + weeks + "," + thick + ")", soap.see(cake, weeks, thick), model.see(cake, weeks, thick));
    }

    private int thickAhead(int cake, int weeks) {
        boolean laid = model.mark(3, false) && soap.mark(3, false);
        int undone = Math.min(16, weeks);
        for (int i = 0; i < undone; i++) {
            model.week();
        }
        int thick = model.cake(cake, 2);
        model.mark(3, true);
        soap.mark(3, true);
        calls += 2;
        trail.add("mark(3) laid and gone back to " + laid);
        return thick;
    }

    private void rests() {
        int both = below(11) - below(8) / 7;
        int loses = below(11) - below(8) / 7;
        int gets = below(11) - below(8) / 7;
        int what = below(7) - 2;
        int got = THROWN;
        int want = THROWN;
        try {
            got = soap.rests(both, loses, gets, what);
        } catch (NoSuchElementException e) {
            got = THROWN;
        }
        try {
            want = model.rests(both, loses, gets, what);
        } catch (NoSuchElementException e) {
            want = THROWN;
        }
        compare("rests(" + both + "," + loses + "," + gets + "," + what + ")", got, want);
    }
}
