import java.util.ArrayDeque;
import java.util.ArrayList;
import java.util.Deque;
import java.util.HashMap;
import java.util.List;
import java.util.Map;
import java.util.NoSuchElementException;
import java.util.Set;

/** The document told a second time, slowly and word by word: whole states are played through for every question. */
final class Model {
    static final int NONE = -1;
    private static final Set<String> KEPT = Set.of("power", "water", "cake", "from", "to", "thick", "hard", "pebble",
        "sliver", "wears", "wash", "hair", "pick", "gift", "press", "week", "plain", "naval", "dry", "carver", "not",
        "and", "or");
    private static final List<String> KINDS = List.of("plain", "naval", "dry", "carver");

    private interface E {
        int of(int left, int tough, int wet, int used);
    }

    private static final class Fault extends RuntimeException {
        private static final long serialVersionUID = 1L;
        final int code;

        Fault(int kind, int place) {
            code = kind + 16 * place;
        }
    }

    private record Token(char type, String text, int place) { }

    private record PowerTold(String name, int kind, int water) { }

    private record CakeTold(String name, int from, int to, int thick, int hard, int[] pebble) { }

    private record Line(String act, int cake, int power) { }

    private record Sight(int cake, int weeks, int thick) { }

    private static final class Told {
        final List<PowerTold> powers = new ArrayList<>();
        final List<CakeTold> cakes = new ArrayList<>();
        Integer sliver = null;
        E wears = null;

        int power(String name) {
            for (int i = 0; i < powers.size(); i++) {
                if (powers.get(i).name().equals(name)) {
                    return i;
                }
            }
            return NONE;
        }

        int cake(String name) {
            for (int i = 0; i < cakes.size(); i++) {
                if (cakes.get(i).name().equals(name)) {
                    return i;
                }
            }
            return NONE;
        }
    }

    private static final class Soap {
        int owner;
        int thick;
        int used;
        boolean hair;
    }

    private final class World {
        final List<Soap> soaps = new ArrayList<>();
        int lump = 0;
        int week = 0;

        World copy() {
            World w = new World();
            for (Soap s : soaps) {
                Soap c = new Soap();
                c.owner = s.owner;
                c.thick = s.thick;
                c.used = s.used;
                c.hair = s.hair;
                w.soaps.add(c);
            }
            w.lump = lump;
            w.week = week;
            return w;
        }

        boolean apply(String act, int cake, int power, int dry) {
            if (act.equals("week")) {
                for (int i = 0; i < soaps.size(); i++) {
                    int owner = soaps.get(i).owner;
                    if (told.powers.get(owner).kind() != 2 && (dry >> owner & 1) == 0) {
                        apply("wash", i, NONE, 0);
                    }
                }
                week++;
                return true;
            }
            if (cake < 0 || cake >= soaps.size()) {
                return false;
            }
            Soap s = soaps.get(cake);
            boolean there = s.thick > 0;
            switch (act) {
                case "wash":
                    if (!there || s.hair) {
                        return false;
                    }
                    PowerTold p = told.powers.get(s.owner);
                    int tough = told.cakes.get(cake).hard();
                    int e = told.wears == null
                        ? 1 + (tough < p.water() ? 1 : 0)
                        : told.wears.of(s.thick, tough, p.water(), s.used);
                    e = e < 0 ? 0 : e > 9 ? 9 : e;
                    e = p.kind() == 1 ? e / 2 : p.kind() == 3 ? 0 : e;
                    s.thick = s.thick < e ? 0 : s.thick - e;
                    s.used++;
                    return true;
                case "hair":
                    if (!there || s.hair) {
                        return false;
                    }
                    s.hair = true;
                    return true;
                case "pick":
                    boolean had = s.hair;
                    s.hair = false;
                    return had;
                case "gift":
                    if (!there || power < 0 || power >= told.powers.size() || power == s.owner) {
                        return false;
                    }
                    s.owner = power;
                    return true;
                default:
                    if (!there || s.used == 0) {
                        return false;
                    }
                    lump += s.thick;
                    s.thick = 0;
                    return true;
            }
        }

        World behind(int weeks, int dry) {
            World w = copy();
            for (int i = 0; i < weeks; i++) {
                w.apply("week", NONE, NONE, dry);
            }
            return w;
        }

        boolean found(int cake) {
            int[] pebble = told.cakes.get(cake).pebble();
            return pebble[0] != NONE && soaps.get(cake).thick <= pebble[0];
        }

        boolean war(int a, int b) {
            for (int i = 0; i < soaps.size(); i++) {
                int from = told.cakes.get(i).from();
                int of = soaps.get(i).owner;
                boolean theirs = from == a && of == b || from == b && of == a;
                if (theirs && soaps.get(i).hair && soaps.get(i).thick > 0) {
                    return true;
                }
            }
            return false;
        }

        private boolean has(int a, int b) {
            for (int i = 0; i < soaps.size(); i++) {
                if (soaps.get(i).owner == a && told.cakes.get(i).from() == b && soaps.get(i).used > 0) {
                    return true;
                }
            }
            return false;
        }

        boolean earnest(int a, int b) {
            return a != b && !war(a, b) && has(a, b) && has(b, a);
        }

        int pairs(boolean atWar) {
            int n = 0;
            for (int a = 0; a < told.powers.size(); a++) {
                for (int b = a + 1; b < told.powers.size(); b++) {
                    n += (atWar ? war(a, b) : earnest(a, b)) ? 1 : 0;
                }
            }
            return n;
        }

        int together() {
            int n = 0;
            for (Soap s : soaps) {
                n += s.thick;
            }
            return n;
        }

        int there() {
            int bits = 0;
            for (int i = 0; i < soaps.size(); i++) {
                bits |= soaps.get(i).thick > 0 ? 1 << i : 0;
            }
            return bits;
        }

        int slivers(int power) {
            int n = 0;
            for (Soap s : soaps) {
                n += s.owner == power && s.thick > 0 && s.thick <= sliver() ? 1 : 0;
            }
            return n;
        }

        int allies(int power) {
            int reached = 0;
            Deque<Integer> open = new ArrayDeque<>();
            open.add(power);
            while (!open.isEmpty()) {
                int a = open.poll();
                for (int b = 0; b < told.powers.size(); b++) {
                    if (earnest(a, b) && (reached >> b & 1) == 0) {
                        reached |= 1 << b;
                        open.add(b);
                    }
                }
            }
            return reached & ~(1 << power);
        }

        int gone(int cake) {
            World w = copy();
            for (int i = 0; i <= 99; i++) {
                if (w.soaps.get(cake).thick == 0) {
                    return i;
                }
                w.apply("week", NONE, NONE, 0);
            }
            return NONE;
        }
    }

    private record Marked(World world, List<Line> years, List<Sight> seen) { }

    private final StringBuilder tape = new StringBuilder();
    private Told told = new Told();
    private World now = new World();
    private List<Line> years = new ArrayList<>();
    private List<Sight> seen = new ArrayList<>();
    private final Deque<World> past = new ArrayDeque<>();
    private final Map<Integer, Marked> marks = new HashMap<>();

    private int sliver() {
        return told.sliver == null ? 2 : told.sliver;
    }

    private boolean isPower(int p) {
        return p >= 0 && p < told.powers.size();
    }

    private boolean isCake(int c) {
        return c >= 0 && c < told.cakes.size();
    }

    // ---- reading

    int feed(long a, long b, long c) {
        for (long eight : new long[] {a, b, c}) {
            for (int i = 0; i < 8; i++) {
                int sign = (int) (eight >> 8 * (7 - i)) & 255;
                if ((sign == 10 || sign > 31 && sign < 127) && tape.length() < 1000) {
                    tape.append((char) sign);
                }
            }
        }
        return tape.length();
    }

    private List<Token> tokens;
    private int at;

    private static List<Token> split(String text) {
        List<Token> list = new ArrayList<>();
        java.util.regex.Matcher m = java.util.regex.Pattern
            .compile("[a-z]+|[0-9]+|[()<=+\\-*;]|[\\n ]+|.").matcher(text);
        while (m.find()) {
            String t = m.group();
            char first = t.charAt(0);
            if (first == ' ' || first == '\n') {
                continue;
            }
            char type = 's';
            if (first >= 'a' && first <= 'z') {
                type = t.length() <= 8 ? 'w' : 'x';
            } else if (first >= '0' && first <= '9') {
                type = t.length() <= 4 ? 'n' : 'x';
            } else if ("()<=+-*;".indexOf(first) < 0) {
                type = 'x';
            }
            list.add(new Token(type, t, m.start()));
        }
        list.add(new Token('e', "", text.length()));
        return list;
    }

    private Token look() {
        return tokens.get(at);
    }

    private boolean is(String text) {
        return (look().type() == 'w' || look().type() == 's') && look().text().equals(text);
    }

    private Fault fault(int kind) {
        return new Fault(kind, look().place());
    }

    private void take(String text) {
        if (!is(text)) {
            throw fault(1);
        }
        at++;
    }

    private int number(int least, int most) {
        if (look().type() != 'n') {
            throw fault(1);
        }
        int n = Integer.parseInt(look().text());
        if (n < least || n > most) {
            throw fault(4);
        }
        at++;
        return n;
    }

    private String name() {
        if (look().type() != 'w' || KEPT.contains(look().text())) {
            throw fault(1);
        }
        return look().text();
    }

    private String newName(Told t) {
        String name = name();
        if (t.power(name) != NONE || t.cake(name) != NONE) {
            throw fault(3);
        }
        at++;
        return name;
    }

    private int known(Told t, boolean cake) {
        String name = name();
        int i = cake ? t.cake(name) : t.power(name);
        if (i == NONE) {
            throw fault(2);
        }
        at++;
        return i;
    }

    int congress() {
        tokens = split(tape.toString());
        tape.setLength(0);
        at = 0;
        Told t = new Told();
        try {
            while (look().type() != 'e') {
                statement(t);
            }
        } catch (Fault f) {
            return f.code;
        }
        told = t;
        now = begun();
        years = new ArrayList<>();
        seen = new ArrayList<>();
        past.clear();
        marks.clear();
        return 0;
    }

    private World begun() {
        World w = new World();
        for (CakeTold c : told.cakes) {
            Soap s = new Soap();
            s.owner = c.to();
            s.thick = c.thick();
            w.soaps.add(s);
        }
        return w;
    }

    private void statement(Told t) {
        if (is("power")) {
            if (t.powers.size() == 5) {
                throw fault(5);
            }
            at++;
            String name = newName(t);
            if (look().type() != 'w' || !KINDS.contains(look().text())) {
                throw fault(1);
            }
            int kind = KINDS.indexOf(look().text());
            at++;
            take("water");
            t.powers.add(new PowerTold(name, kind, number(0, 9)));
        } else if (is("cake")) {
            if (t.cakes.size() == 7) {
                throw fault(5);
            }
            at++;
            String name = newName(t);
            take("from");
            int from = known(t, false);
            take("to");
            int to = known(t, false);
            if (to == from) {
                at--;
                throw fault(3);
            }
            take("thick");
            int thick = number(1, 40);
            take("hard");
            t.cakes.add(new CakeTold(name, from, to, thick, number(0, 9), new int[] {NONE}));
        } else if (is("pebble")) {
            at++;
            int cake = known(t, true);
            if (t.cakes.get(cake).pebble()[0] != NONE) {
                at--;
                throw fault(3);
            }
            t.cakes.get(cake).pebble()[0] = number(0, 39);
        } else if (is("sliver")) {
            if (t.sliver != null) {
                throw fault(3);
            }
            at++;
            t.sliver = number(1, 9);
        } else if (is("wears")) {
            if (t.wears != null) {
                throw fault(3);
            }
            at++;
            t.wears = tests(0);
        } else {
            throw fault(1);
        }
        take(";");
    }

    private E tests(int within) {
        E e = test(within);
        while (is("and") || is("or")) {
            boolean and = is("and");
            at++;
            E a = e;
            E b = test(within);
            e = (l, t, w, u) -> {
                boolean x = a.of(l, t, w, u) != 0;
                boolean y = b.of(l, t, w, u) != 0;
                return (and ? x && y : x || y) ? 1 : 0;
            };
        }
        return e;
    }

    private E test(int within) {
        E a = sum(within);
        if (is("<")) {
            at++;
            E b = sum(within);
            return (l, t, w, u) -> a.of(l, t, w, u) < b.of(l, t, w, u) ? 1 : 0;
        }
        if (is("=")) {
            at++;
            E b = sum(within);
            return (l, t, w, u) -> a.of(l, t, w, u) == b.of(l, t, w, u) ? 1 : 0;
        }
        return a;
    }

    private E sum(int within) {
        E e = product(within);
        while (is("+") || is("-")) {
            int sign = is("+") ? 1 : -1;
            at++;
            E a = e;
            E b = product(within);
            e = (l, t, w, u) -> a.of(l, t, w, u) + sign * b.of(l, t, w, u);
        }
        return e;
    }

    private E product(int within) {
        E e = part(within);
        while (is("*")) {
            at++;
            E a = e;
            E b = part(within);
            e = (l, t, w, u) -> a.of(l, t, w, u) * b.of(l, t, w, u);
        }
        return e;
    }

    private E part(int within) {
        boolean fact = is("left") || is("tough") || is("wet") || is("used");
        if (look().type() != 'n' && !fact && !is("not") && !is("(")) {
            throw fault(1);
        }
        if (within == 5) {
            throw fault(5);
        }
        Token token = look();
        at++;
        if (token.type() == 'n') {
            int n = Integer.parseInt(token.text());
            return (l, t, w, u) -> n;
        }
        switch (token.text()) {
            case "left": return (l, t, w, u) -> l;
            case "tough": return (l, t, w, u) -> t;
            case "wet": return (l, t, w, u) -> w;
            case "used": return (l, t, w, u) -> u;
            case "not":
                E a = part(within + 1);
                return (l, t, w, u) -> a.of(l, t, w, u) == 0 ? 1 : 0;
            default:
                E e = tests(within + 1);
                take(")");
                return e;
        }
    }

    int years() {
        tokens = split(tape.toString());
        tape.setLength(0);
        at = 0;
        List<Line> lines = new ArrayList<>();
        try {
            while (look().type() != 'e') {
                String act = look().text();
                if (look().type() != 'w' || !List.of("wash", "hair", "pick", "gift", "press", "week").contains(act)) {
                    throw fault(1);
                }
                if (lines.size() == 40) {
                    throw fault(5);
                }
                at++;
                int cake = act.equals("week") ? NONE : known(told, true);
                int power = act.equals("gift") ? known(told, false) : NONE;
                take(";");
                lines.add(new Line(act, cake, power));
            }
        } catch (Fault f) {
            return f.code;
        }
        years = lines;
        return 0;
    }

    // ---- asking

    int power(int p, int what) {
        if (!isPower(p)) {
            return NONE;
        }
        int bits = 0;
        switch (what) {
            case 0: return told.powers.get(p).kind();
            case 1: return told.powers.get(p).water();
            case 2:
                for (int i = 0; i < now.soaps.size(); i++) {
                    bits |= now.soaps.get(i).owner == p ? 1 << i : 0;
                }
                return bits;
            case 3: return now.slivers(p);
            case 4:
                for (int q = 0; q < told.powers.size(); q++) {
                    bits |= q != p && now.war(p, q) ? 1 << q : 0;
                }
                return bits;
            case 5: return now.allies(p);
            default: return NONE;
        }
    }

    int cake(int c, int what) {
        if (!isCake(c)) {
            return -2;
        }
        Soap s = now.soaps.get(c);
        switch (what) {
            case 0: return told.cakes.get(c).from();
            case 1: return s.owner;
            case 2: return s.thick;
            case 3: return s.used;
            case 4: return s.hair ? 1 : 0;
            case 5: return told.cakes.get(c).pebble()[0] == NONE ? NONE : now.found(c) ? 1 : 0;
            case 6: return told.cakes.get(c).hard();
            default: return -2;
        }
    }

    private boolean act(String act, int cake, int power) {
        World before = now.copy();
        if (!now.apply(act, cake, power, 0)) {
            return false;
        }
        past.addLast(before);
        if (past.size() > 16) {
            past.removeFirst();
        }
        return true;
    }

    int wash(int c) {
        return act("wash", c, NONE) ? now.soaps.get(c).thick : NONE;
    }

    boolean hair(int c) {
        return act("hair", c, NONE);
    }

    boolean pick(int c) {
        return act("pick", c, NONE);
    }

    boolean gift(int c, int p) {
        return act("gift", c, p);
    }

    int press(int c) {
        return act("press", c, NONE) ? now.lump : NONE;
    }

    int week() {
        int before = now.there();
        act("week", NONE, NONE);
        return before - now.there();
    }

    boolean undo() {
        if (past.isEmpty()) {
            return false;
        }
        now = past.removeLast();
        return true;
    }

    int judged(int what) {
        World w = begun();
        int cannot = NONE;
        int found = NONE;
        for (int i = 0; i < years.size(); i++) {
            Line line = years.get(i);
            if (!w.apply(line.act(), line.cake(), line.power(), 0) && cannot == NONE) {
                cannot = i;
            }
            for (int c = 0; c < w.soaps.size(); c++) {
                if (w.found(c) && found == NONE) {
                    found = i;
                }
            }
        }
        return what == 0 ? cannot : what == 1 ? found : what == 2 ? w.lump : -2;
    }

    int earnest(int p, int q) {
        return !isPower(p) || !isPower(q) || p == q ? NONE : now.earnest(p, q) ? 1 : 0;
    }

    int gone(int c) {
        return isCake(c) ? now.gone(c) : NONE;
    }

    int worn(int c) {
        if (!isCake(c)) {
            return NONE;
        }
        World w = now.copy();
        for (int i = 0; i <= 99; i++) {
            if (w.found(c)) {
                return i;
            }
            w.apply("week", NONE, NONE, 0);
        }
        return NONE;
    }

    int last() {
        int best = NONE;
        for (int c = 0; c < now.soaps.size(); c++) {
            if (now.soaps.get(c).thick > 0 && (best == NONE || stays(c) > stays(best))) {
                best = c;
            }
        }
        return best;
    }

    private int stays(int c) {
        int gone = now.gone(c);
        return gone == NONE ? Integer.MAX_VALUE : gone;
    }

    int best(int c) {
        if (!isCake(c) || now.soaps.get(c).thick == 0) {
            return NONE;
        }
        int best = NONE;
        int least = Integer.MAX_VALUE;
        for (int p = 0; p < told.powers.size(); p++) {
            World w = now.copy();
            w.soaps.get(c).owner = p;
            int gone = w.gone(c);
            if (gone != NONE && gone < least) {
                least = gone;
                best = p;
            }
        }
        return best;
    }

    int pressing(int thick) {
        if (thick < 1 || thick > 200) {
            return NONE;
        }
        for (int n = 0; n <= now.soaps.size(); n++) {
            for (int set = 0; set < 1 << now.soaps.size(); set++) {
                if (Integer.bitCount(set) == n) {
                    World w = now.copy();
                    boolean all = true;
                    for (int c = 0; c < now.soaps.size(); c++) {
                        all &= (set >> c & 1) == 0 || w.apply("press", c, NONE, 0);
                    }
                    if (all && w.lump >= thick) {
                        return set;
                    }
                }
            }
        }
        return NONE;
    }

    int peace() {
        int bits = 0;
        for (int c = 0; c < now.soaps.size(); c++) {
            World w = now.copy();
            for (int d = 0; d < now.soaps.size(); d++) {
                if (d != c) {
                    w.apply("pick", d, NONE, 0);
                }
            }
            bits |= w.pairs(true) > 0 ? 1 << c : 0;
        }
        return bits;
    }

    int pacts(int weeks) {
        return weeks < 0 || weeks > 60 ? NONE : now.behind(weeks, 0).pairs(false);
    }

    int soonest() {
        int most = NONE;
        int best = NONE;
        for (int w = 0; w <= 60; w++) {
            int pairs = now.behind(w, 0).pairs(false);
            if (pairs > most) {
                most = pairs;
                best = w;
            }
        }
        return best;
    }

    int blocs() {
        int n = 0;
        for (int p = 0; p < told.powers.size(); p++) {
            int allies = now.allies(p);
            n += allies == 0 || Integer.numberOfTrailingZeros(allies) > p ? 1 : 0;
        }
        return n;
    }

    int devoted() {
        int best = NONE;
        for (int p = told.powers.size() - 1; p >= 0; p--) {
            if (now.slivers(p) > 0 && (best == NONE || now.slivers(p) >= now.slivers(best))) {
                best = p;
            }
        }
        return best;
    }

    boolean see(int c, int weeks, int thick) {
        if (!isCake(c) || weeks < 1 || weeks > 20 || thick < 0 || thick > 40 || seen.size() == 8) {
            return false;
        }
        seen.add(new Sight(c, weeks, thick));
        return true;
    }

    private List<Integer> fitting() {
        List<Integer> list = new ArrayList<>();
        for (int set = 0; set < 1 << told.powers.size(); set++) {
            boolean fits = true;
            for (int p = 0; p < told.powers.size(); p++) {
                fits &= (set >> p & 1) == 0 || told.powers.get(p).kind() != 2;
            }
            for (Sight s : seen) {
                fits = fits && now.behind(s.weeks(), set).soaps.get(s.cake()).thick == s.thick();
            }
            if (fits) {
                list.add(set);
            }
        }
        return list;
    }

    int sets(int what) {
        List<Integer> sets = fitting();
        if (what == 0) {
            return sets.size();
        }
        if (what < 0 || what > 2 || sets.isEmpty()) {
            return NONE;
        }
        int all = sets.get(0);
        int some = 0;
        for (int set : sets) {
            all &= set;
            some |= set;
        }
        return what == 1 ? all : some;
    }

    int ask(int weeks) {
        if (weeks < 1 || weeks > 20) {
            return NONE;
        }
        List<Integer> sets = fitting();
        int best = NONE;
        int least = sets.size();
        for (int c = 0; c < now.soaps.size(); c++) {
            Map<Integer, Integer> by = new HashMap<>();
            int most = 0;
            for (int set : sets) {
                most = Math.max(most, by.merge(now.behind(weeks, set).soaps.get(c).thick, 1, Integer::sum));
            }
            if (most < least) {
                least = most;
                best = c;
            }
        }
        return best;
    }

    int chance(int c, int weeks, int odds) {
        if (!isCake(c) || told.cakes.get(c).pebble()[0] == NONE || weeks < 1 || weeks > 6 || odds < 0 || odds > 10) {
            return NONE;
        }
        long share = share(now, c, weeks, odds);
        long whole = 1;
        for (int i = 0; i < weeks; i++) {
            whole *= 10;
        }
        return (int) (share * 1000000 / whole);
    }

    private long share(World w, int c, int weeks, int odds) {
        if (weeks == 0) {
            return w.found(c) ? 1 : 0;
        }
        return odds * share(w.behind(1, 0), c, weeks - 1, odds) + (10 - odds) * share(w, c, weeks - 1, odds);
    }

    int rests(int both, int loses, int gets, int what) {
        if (both < 0 || both > 9 || loses < 0 || loses > 9 || gets < 0 || gets > 9) {
            throw new NoSuchElementException();
        }
        int[][] mine = {{0, gets}, {-loses, both}};
        List<Integer> list = new ArrayList<>();
        for (int i = 0; i < 2; i++) {
            for (int j = 0; j < 2; j++) {
                if (mine[1 - i][j] <= mine[i][j] && mine[1 - j][i] <= mine[j][i]) {
                    list.add(2 * i + j);
                }
            }
        }
        if (what == NONE) {
            return list.size();
        }
        if (what < 0 || what >= list.size()) {
            throw new NoSuchElementException();
        }
        return list.get(what);
    }

    private long g;

    private int draw(int m) {
        g = (g * 1103515245L + 12345L) & 0x7FFFFFFFL;
        return (int) ((g >> 16) % m);
    }

    int reigns(int seed, int weeks, int what) {
        if (seed < 0 || seed > 9999 || weeks < 1 || weeks > 99 || what < 0 || what > 2) {
            return NONE;
        }
        g = seed;
        World w = now.copy();
        for (int i = 0; i < weeks; i++) {
            if (!told.cakes.isEmpty()) {
                int c = draw(told.cakes.size());
                int deed = draw(6);
                int p = deed == 2 ? draw(told.powers.size()) : NONE;
                String[] deeds = {"hair", "pick", "gift", "press"};
                if (deed < 4) {
                    w.apply(deeds[deed], c, p, 0);
                }
            }
            w.apply("week", NONE, NONE, 0);
        }
        return what == 0 ? w.lump : what == 1 ? w.pairs(false) : w.together();
    }

    boolean mark(int m, boolean back) {
        if (m < 0 || m > 3 || back && !marks.containsKey(m)) {
            return false;
        }
        if (back) {
            Marked marked = marks.get(m);
            now = marked.world().copy();
            years = new ArrayList<>(marked.years());
            seen = new ArrayList<>(marked.seen());
            past.clear();
        } else {
            marks.put(m, new Marked(now.copy(), new ArrayList<>(years), new ArrayList<>(seen)));
        }
        return true;
    }

    int count(int what) {
        switch (what) {
            case 0: return told.powers.size();
            case 1: return told.cakes.size();
            case 2: return sliver();
            case 3: return now.week;
            case 4: return now.lump;
            case 5: return now.together();
            case 6: return now.there();
            case 7: return now.pairs(true);
            case 8: return now.pairs(false);
            case 9: return years.size();
            case 10: return seen.size();
            case 11: return past.size();
            case 12: return tape.length();
            default: return NONE;
        }
    }
}
