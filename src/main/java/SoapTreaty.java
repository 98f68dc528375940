import java.util.NoSuchElementException;

/** Powers that send one another soap instead of signing: congresses told, played by hand, looked ahead of. */
public final class SoapTreaty {
    public static final int NONE = -1;

    private static final int OTHERS = -2;
    private static final int MARKS = 4;
    private static final int CHOICES = 4;
    private static final int FURTHEST_PACT = 60;
    private static final int FURTHEST_SIGHT = 20;
    private static final int FURTHEST_CHANCE = 6;
    private static final int LONGEST_REIGN = 99;
    private static final int TEN = 10;

    private final Tape tape;
    private final Congress told;
    private final Reader reader;
    private final Page page;
    private final Page[] marks;
    private final Past past;
    private final State ahead;
    private final int[] sightWashed;
    private int laid;
    private long dice;

    public SoapTreaty() {
        tape = new Tape();
        told = new Congress();
        reader = new Reader(tape, told);
        page = new Page(told);
        marks = new Page[MARKS];
        for (int mark = 0; mark < MARKS; mark++) {
            marks[mark] = new Page(told);
        }
        past = new Past(told);
        ahead = new State(told);
        sightWashed = new int[Seen.MOST];
        laid = 0;
        dice = 0;
    }

    public int feed(long a, long b, long c) {
        tape.append(a);
        tape.append(b);
        tape.append(c);
        return tape.length;
    }

    public int congress() {
        int fault = reader.readCongress();
        tape.length = 0;
        if (fault == 0) {
            told.copyFrom(reader.draft);
            page.begin();
            past.kept = 0;
            laid = 0;
        }
        return fault;
    }

    public int years() {
        int fault = reader.readYears();
        tape.length = 0;
        if (fault == 0) {
            page.lines.copyFrom(reader.draftLines);
        }
        return fault;
    }

    public int power(int power, int what) {
        if (!told.hasPower(power)) {
            return NONE;
        }
        State now = page.state;
        switch (what) {
            case 0: return told.kindOf(power);
            case 1: return told.waterOf(power);
            case 2: return now.cakesOf(power);
            case 3: return Integer.bitCount(now.cakesOf(power) & now.slivers());
            case 4: return now.foesOf(power);
            case 5: return now.blocOf(power) & ~(1 << power);
            default: return NONE;
        }
    }

    public int cake(int cake, int what) {
        if (!told.hasCake(cake)) {
            return OTHERS;
        }
        State now = page.state;
        switch (what) {
            case 0: return told.sender[cake];
            case 1: return now.owner[cake];
            case 2: return now.thick[cake];
            case 3: return now.used[cake];
            case 4: return now.hasHair(cake) ? 1 : 0;
            case 5: return told.pebble[cake] == NONE ? NONE : now.isFound(cake) ? 1 : 0;
            case 6: return told.hard[cake];
            default: return OTHERS;
        }
    }

    public int wash(int cake) {
        if (!told.hasCake(cake) || !doByHand(State.WASH, cake, NONE)) {
            return NONE;
        }
        return page.state.thick[cake];
    }

    public boolean hair(int cake) {
        return doByHand(State.HAIR, cake, NONE);
    }

    public boolean pick(int cake) {
        return doByHand(State.PICK, cake, NONE);
    }

    public boolean gift(int cake, int power) {
        return doByHand(State.GIFT, cake, power);
    }

    public int press(int cake) {
        return doByHand(State.PRESS, cake, NONE) ? page.state.lump : NONE;
    }

    public int week() {
        int before = page.state.thereBits();
        doByHand(State.WEEK, NONE, NONE);
        return before & ~page.state.thereBits();
    }

    public boolean undo() {
        return past.giveBack(page.state);
    }

    public int judged(int what) {
        if (what < 0 || what > 2) {
            return OTHERS;
        }
        int cannot = NONE;
        int found = NONE;
        Lines lines = page.lines;
        ahead.begin();
        for (int line = 0; line < lines.size; line++) {
            boolean done = ahead.attempt(lines.act[line], lines.cake[line], lines.power[line]);
            if (!done && cannot == NONE) {
                cannot = line;
            }
            if (found == NONE && ahead.isAnyFound()) {
                found = line;
            }
        }
        return what == 0 ? cannot : what == 1 ? found : ahead.lump;
    }

    public int earnest(int power, int other) {
        if (!told.hasPower(power) || !told.hasPower(other) || power == other) {
            return NONE;
        }
        return page.state.areInEarnest(power, other) ? 1 : 0;
    }

    public int gone(int cake) {
        return told.hasCake(cake) ? page.state.weeksTo(0, cake, page.state.owner[cake]) : NONE;
    }

    public int worn(int cake) {
        return told.hasCake(cake) ? weeksToPebble(cake) : NONE;
    }

    public int last() {
        State now = page.state;
        int longest = 0;
        int chosen = NONE;
        for (int cake = 0; cake < told.cakes; cake++) {
            if (now.isThere(cake)) {
                int weeks = now.weeksTo(0, cake, now.owner[cake]);
                int stays = weeks == NONE ? State.FURTHEST + 1 : weeks;
                if (stays > longest) {
                    longest = stays;
                    chosen = cake;
                }
            }
        }
        return chosen;
    }

    public int best(int cake) {
        if (!told.hasCake(cake) || !page.state.isThere(cake)) {
            return NONE;
        }
        int soonest = State.FURTHEST + 1;
        int chosen = NONE;
        for (int power = 0; power < told.powers; power++) {
            int weeks = page.state.weeksTo(0, cake, power);
            if (weeks != NONE && weeks < soonest) {
                soonest = weeks;
                chosen = power;
            }
        }
        return chosen;
    }

    public int pressing(int thick) {
        if (thick < 1 || thick > 200) {
            return NONE;
        }
        State now = page.state;
        int fewest = Congress.CAKES + 1;
        int chosen = NONE;
        for (int set = 0; set < 1 << told.cakes; set++) {
            int cakes = Integer.bitCount(set);
            if (cakes < fewest && now.canPressAll(set) && now.lump + now.thickOf(set) >= thick) {
                fewest = cakes;
                chosen = set;
            }
        }
        return chosen;
    }

    public int peace() {
        return page.state.warringCakes();
    }

    public int pacts(int weeks) {
        return weeks < 0 || weeks > FURTHEST_PACT ? NONE : pactsBehind(weeks);
    }

    public int soonest() {
        return pactsBehind(1) > pactsBehind(0) ? 1 : 0;
    }

    public int blocs() {
        int counted = 0;
        int blocs = 0;
        for (int power = 0; power < told.powers; power++) {
            if ((counted >> power & 1) == 0) {
                blocs++;
                counted |= page.state.blocOf(power);
            }
        }
        return blocs;
    }

    public int devoted() {
        State now = page.state;
        int most = 0;
        int chosen = NONE;
        for (int power = 0; power < told.powers; power++) {
            int slivers = Integer.bitCount(now.cakesOf(power) & now.slivers());
            if (slivers > most) {
                most = slivers;
                chosen = power;
            }
        }
        return chosen;
    }

    public boolean see(int cake, int weeks, int thick) {
        if (!told.hasCake(cake) || !isSightFar(weeks) || thick < 0 || thick > Congress.THICKEST) {
            return false;
        }
        return page.seen.add(cake, weeks, thick);
    }

    public int sets(int what) {
        if (what < 0 || what > 2) {
            return NONE;
        }
        int sets = fittingSets();
        if (what == 0) {
            return Integer.bitCount(sets);
        }
        if (sets == 0) {
            return NONE;
        }
        int inAll = (1 << told.powers) - 1;
        int inSome = 0;
        for (int set = 0; set < 1 << told.powers; set++) {
            if ((sets >> set & 1) == 1) {
                inAll &= set;
                inSome |= set;
            }
        }
        return what == 1 ? inAll : inSome;
    }

    public int ask(int weeks) {
        if (!isSightFar(weeks)) {
            return NONE;
        }
        int sets = fittingSets();
        int all = Integer.bitCount(sets);
        int least = all;
        int chosen = NONE;
        for (int cake = 0; cake < told.cakes; cake++) {
            int most = all;
            if (page.state.thickBehind(weeks, cake) != page.state.thick[cake]) {
                int dry = setsWith(sets, page.state.owner[cake]);
                most = Math.max(dry, all - dry);
            }
            if (most < least) {
                least = most;
                chosen = cake;
            }
        }
        return chosen;
    }

    public int chance(int cake, int weeks, int odds) {
        if (!told.hasCake(cake) || weeks < 1 || weeks > FURTHEST_CHANCE || odds < 0 || odds > TEN) {
            return NONE;
        }
        if (told.pebble[cake] == NONE) {
            return NONE;
        }
        int needed = weeksToPebble(cake);
        int share = 0;
        for (int pattern = 0; pattern < 1 << weeks; pattern++) {
            int washed = Integer.bitCount(pattern);
            if (needed != NONE && washed >= needed) {
                share += raised(odds, washed) * raised(TEN - odds, weeks - washed);
            }
        }
        return share * raised(TEN, FURTHEST_CHANCE - weeks);
    }

    public int rests(int both, int loses, int gets, int what) throws NoSuchElementException {
        if (!isStake(both) || !isStake(loses) || !isStake(gets)) {
            throw new NoSuchElementException();
        }
        int resting = 0;
        for (int pair = 0; pair < CHOICES; pair++) {
            if (isAtRest(both, loses, gets, pair)) {
                if (resting == what) {
                    return pair;
                }
                resting++;
            }
        }
        if (what != NONE) {
            throw new NoSuchElementException();
        }
        return resting;
    }

    public int reigns(int seed, int weeks, int what) {
        if (seed < 0 || seed > 9999 || weeks < 1 || weeks > LONGEST_REIGN || what < 0 || what > 2) {
            return NONE;
        }
        ahead.copyFrom(page.state);
        dice = seed;
        for (int week = 0; week < weeks; week++) {
            drawDeed();
            ahead.attempt(State.WEEK, NONE, NONE);
        }
        return what == 0 ? ahead.lump : what == 1 ? ahead.pairsInEarnest() : ahead.thickOf(told.cakeBits());
    }

    public boolean mark(int mark, boolean back) {
        if (mark < 0 || mark >= MARKS) {
            return false;
        }
        if (!back) {
            marks[mark].copyFrom(page);
            laid |= 1 << mark;
            return true;
        }
        if ((laid >> mark & 1) == 0) {
            return false;
        }
        page.copyFrom(marks[mark]);
        past.kept = 0;
        return true;
    }

    public int count(int what) {
        State now = page.state;
        switch (what) {
            case 0: return told.powers;
            case 1: return told.cakes;
            case 2: return told.sliver;
            case 3: return now.week;
            case 4: return now.lump;
            case 5: return now.thickOf(told.cakeBits());
            case 6: return now.thereBits();
            case 7: return now.pairsAtWar();
            case 8: return now.pairsInEarnest();
            case 9: return page.lines.size;
            case 10: return page.seen.size;
            case 11: return past.kept;
            case 12: return tape.length;
            default: return NONE;
        }
    }

    private boolean doByHand(int act, int cake, int power) {
        if (!page.state.can(act, cake, power)) {
            return false;
        }
        past.keep(page.state);
        return page.state.attempt(act, cake, power);
    }

    private int weeksToPebble(int cake) {
        if (!told.hasCake(cake) || told.pebble[cake] == NONE) {
            return NONE;
        }
        return page.state.weeksTo(told.pebble[cake], cake, page.state.owner[cake]);
    }

    /** All that will ever be washed with is so in the first week, so later weeks bring no other pact. */
    private int pactsBehind(int weeks) {
        if (weeks == 0) {
            return page.state.pairsInEarnest();
        }
        ahead.copyFrom(page.state);
        ahead.attempt(State.WEEK, NONE, NONE);
        return ahead.pairsInEarnest();
    }

    private static boolean isSightFar(int weeks) {
        return weeks >= 1 && weeks <= FURTHEST_SIGHT;
    }

    /** Bit s stands for the set of powers whose bits are s: with five powers there are 32. */
    private int fittingSets() {
        Seen seen = page.seen;
        for (int sight = 0; sight < seen.size; sight++) {
            sightWashed[sight] = page.state.thickBehind(seen.weeks[sight], seen.cake[sight]);
        }
        int dry = told.dryBits();
        int sets = 0;
        for (int set = 0; set < 1 << told.powers; set++) {
            if ((set & dry) == 0 && fitsAllSeen(set)) {
                sets |= 1 << set;
            }
        }
        return sets;
    }

    /** Whether others are dry changes nothing about a cake: only whose it is matters. */
    private boolean fitsAllSeen(int set) {
        Seen seen = page.seen;
        for (int sight = 0; sight < seen.size; sight++) {
            int cake = seen.cake[sight];
            if (!told.hasCake(cake)) {
                return false;
            }
            boolean dry = (set >> page.state.owner[cake] & 1) == 1;
            int thick = dry ? page.state.thick[cake] : sightWashed[sight];
            if (thick != seen.thick[sight]) {
                return false;
            }
        }
        return true;
    }

    private int setsWith(int sets, int power) {
        int number = 0;
        for (int set = 0; set < 1 << told.powers; set++) {
            if ((sets >> set & 1) == 1 && (set >> power & 1) == 1) {
                number++;
            }
        }
        return number;
    }

    private static int raised(int base, int times) {
        int product = 1;
        for (int i = 0; i < times; i++) {
            product *= base;
        }
        return product;
    }

    private static boolean isStake(int stake) {
        return stake >= 0 && stake <= 9;
    }

    private static boolean isAtRest(int both, int loses, int gets, int pair) {
        int first = pair >> 1;
        int second = pair & 1;
        return gain(first, second, both, loses, gets) >= gain(1 - first, second, both, loses, gets)
            && gain(second, first, both, loses, gets) >= gain(1 - second, first, both, loses, gets);
    }

    private static int gain(int own, int others, int both, int loses, int gets) {
        if (own == 1) {
            return others == 1 ? both : -loses;
        }
        return others == 1 ? gets : 0;
    }

    private int drawBelow(int bound) {
        dice = (dice * 1103515245L + 12345L) % 2147483648L;
        return bound > 0 ? (int) (dice / 65536L % bound) : 0;
    }

    private void drawDeed() {
        if (told.cakes == 0) {
            return;
        }
        int cake = drawBelow(told.cakes);
        switch (drawBelow(6)) {
            case 0: ahead.attempt(State.HAIR, cake, NONE); break;
            case 1: ahead.attempt(State.PICK, cake, NONE); break;
            case 2: ahead.attempt(State.GIFT, cake, drawBelow(told.powers)); break;
            case 3: ahead.attempt(State.PRESS, cake, NONE); break;
            default: break;
        }
    }

    /** The signs that were fed and not read yet. */
    private static final class Tape {
        static final int MOST = 1000;

        final byte[] signs = new byte[MOST];
        int length;

        void append(long eight) {
            for (int shift = 56; shift >= 0; shift -= 8) {
                int sign = (int) (eight >>> shift & 0xFF);
                boolean kept = sign == 10 || sign >= 32 && sign <= 126;
                if (kept && length < MOST) {
                    signs[length] = (byte) sign;
                    length++;
                }
            }
        }

        int signAt(int place) {
            return place >= 0 && place < length ? signs[place] : 0;
        }
    }

    /** The tape's tokens one by one. Behind the first fault it stands still, so that readers need not look. */
    private static final class Tokens {
        static final int END = 0;
        static final int BAD = 1;
        static final int WORD = 2;
        static final int NUMBER = 3;
        static final int SIGN = 4;

        static final int UNFIT = 1;
        static final int UNKNOWN = 2;
        static final int TOLD = 3;
        static final int MISTOLD = 4;
        static final int TOO_MANY = 5;

        static final int POWER = 0;
        static final int WATER = 1;
        static final int CAKE = 2;
        static final int FROM = 3;
        static final int TO = 4;
        static final int THICK = 5;
        static final int HARD = 6;
        static final int PEBBLE = 7;
        static final int SLIVER = 8;
        static final int WEARS = 9;
        static final int WASH = 10;
        static final int WEEK = 15;
        static final int PLAIN = 16;
        static final int NOT = 20;
        static final int AND = 21;
        static final int OR = 22;
        static final int LEFT = 23;
        static final int TOUGH = 24;
        static final int WET = 25;
        static final int USED = 26;

        private static final int WORDS = 27;
        private static final String SPELT = "power water cake from to thick hard pebble sliver wears wash hair pick gift press week plain naval dry carver not and or left tough wet used ";
        private static final int LONGEST_WORD = 8;
        private static final int LONGEST_NUMBER = 4;

        private final Tape tape;
        private final long[] spellings = new long[WORDS];
        private int next;

        int kind;
        int place;
        /** A word's number among those spelt above (NONE: another), a number's value, a sign's code. */
        int value;
        long spelling;
        int fault;

        Tokens(Tape tape) {
            this.tape = tape;
            int word = 0;
            long spelling = 0;
            for (int i = 0; i < SPELT.length() && word < WORDS; i++) {
                if (SPELT.charAt(i) == ' ') {
                    spellings[word] = spelling;
                    spelling = 0;
                    word++;
                } else {
                    spelling = longer(spelling, SPELT.charAt(i));
                }
            }
        }

        private static long longer(long spelling, int letter) {
            return spelling * 32 + (letter - 'a' + 1);
        }

        void begin() {
            next = 0;
            fault = 0;
            step();
        }

        void step() {
            if (fault != 0) {
                return;
            }
            while (next < tape.length && isBlank(tape.signAt(next))) {
                next++;
            }
            place = next;
            int sign = tape.signAt(next);
            if (next >= tape.length) {
                kind = END;
            } else if (isLetter(sign)) {
                stepWord();
            } else if (isDigit(sign)) {
                stepNumber();
            } else {
                kind = isSignSpelt(sign) ? SIGN : BAD;
                value = sign;
                next++;
            }
        }

        private void stepWord() {
            spelling = 0;
            while (next < tape.length && isLetter(tape.signAt(next))) {
                spelling = longer(spelling, tape.signAt(next));
                next++;
            }
            kind = next - place <= LONGEST_WORD ? WORD : BAD;
            value = NONE;
            for (int word = 0; word < WORDS; word++) {
                if (spellings[word] == spelling) {
                    value = word;
                }
            }
        }

        private void stepNumber() {
            value = 0;
            while (next < tape.length && isDigit(tape.signAt(next))) {
                value = value * 10 + (tape.signAt(next) - '0');
                next++;
            }
            kind = next - place <= LONGEST_NUMBER ? NUMBER : BAD;
        }

        private static boolean isBlank(int sign) {
            return sign == 10 || sign == 32;
        }

        private static boolean isLetter(int sign) {
            return sign >= 'a' && sign <= 'z';
        }

        private static boolean isDigit(int sign) {
            return sign >= '0' && sign <= '9';
        }

        private static boolean isSignSpelt(int sign) {
            switch (sign) {
                case '(': case ')': case '<': case '=': case '+': case '-': case '*': case ';': return true;
                default: return false;
            }
        }

        void complain(int kindOfFault) {
            if (fault == 0) {
                fault = kindOfFault + 16 * place;
            }
        }

        boolean isMore() {
            return fault == 0 && kind != END;
        }

        boolean isWord(int word) {
            return fault == 0 && kind == WORD && value == word;
        }

        boolean isSign(int sign) {
            return fault == 0 && kind == SIGN && value == sign;
        }

        /** The facts of the law are no words kept back: powers and cakes may bear them. */
        boolean isName() {
            return kind == WORD && (value == NONE || value >= LEFT);
        }

        void takeWord(int word) {
            if (!isWord(word)) {
                complain(UNFIT);
            }
            step();
        }

        void takeSign(int sign) {
            if (!isSign(sign)) {
                complain(UNFIT);
            }
            step();
        }

        int takeNumber(int least, int most) {
            int number = value;
            if (kind != NUMBER) {
                complain(UNFIT);
            } else if (number < least || number > most) {
                complain(MISTOLD);
            }
            step();
            return number;
        }
    }

    /** A law of how cakes wear, as steps on a stack: what is 0 or more is a number. */
    private static final class Law {
        static final int LEFT = -1;
        static final int TOUGH = -2;
        static final int WET = -3;
        static final int USED = -4;
        static final int NOT = -5;
        static final int AND = -6;
        static final int OR = -7;
        static final int LESS = -8;
        static final int SAME = -9;
        static final int PLUS = -10;
        static final int MINUS = -11;
        static final int TIMES = -12;

        /** Four operands wait at most at each of five depths. */
        private static final int HIGHEST = 24;

        private final int[] steps = new int[Tape.MOST];
        private final int[] stack = new int[HIGHEST];
        private int length;

        void clear() {
            length = 0;
        }

        void tellUsual() {
            clear();
            add(1);
            add(TOUGH);
            add(WET);
            add(LESS);
            add(PLUS);
        }

        void add(int step) {
            if (length < Tape.MOST) {
                steps[length] = step;
                length++;
            }
        }

        void copyFrom(Law other) {
            length = other.length;
            System.arraycopy(other.steps, 0, steps, 0, Tape.MOST);
        }

        int valueFor(int left, int tough, int wet, int used) {
            int height = 0;
            for (int i = 0; i < length; i++) {
                int step = steps[i];
                if (step >= USED) {
                    if (height < HIGHEST) {
                        stack[height] = operand(step, left, tough, wet, used);
                        height++;
                    }
                } else if (step == NOT) {
                    if (height >= 1) {
                        stack[height - 1] = stack[height - 1] == 0 ? 1 : 0;
                    }
                } else if (height >= 2) {
                    height--;
                    stack[height - 1] = joined(step, stack[height - 1], stack[height]);
                }
            }
            return height > 0 ? stack[0] : 0;
        }

        private static int operand(int step, int left, int tough, int wet, int used) {
            switch (step) {
                case LEFT: return left;
                case TOUGH: return tough;
                case WET: return wet;
                case USED: return used;
                default: return step;
            }
        }

        private static int joined(int step, int a, int b) {
            switch (step) {
                case AND: return a != 0 && b != 0 ? 1 : 0;
                case OR: return a != 0 || b != 0 ? 1 : 0;
                case LESS: return a < b ? 1 : 0;
                case SAME: return a == b ? 1 : 0;
                case PLUS: return a + b;
                case MINUS: return a - b;
                default: return a * b;
            }
        }
    }

    /** Reads an E into a law, operands before what joins them. */
    private static final class LawReader {
        private static final int TOO_DEEP = 5;

        private final Tokens tokens;
        private final Law law;

        LawReader(Tokens tokens, Law law) {
            this.tokens = tokens;
            this.law = law;
        }

        void readE(int depth) {
            readTest(depth);
            for (int more = 0; more < Tape.MOST && (tokens.isWord(Tokens.AND) || tokens.isWord(Tokens.OR)); more++) {
                int step = tokens.isWord(Tokens.AND) ? Law.AND : Law.OR;
                tokens.step();
                readTest(depth);
                law.add(step);
            }
        }

        private void readTest(int depth) {
            readSum(depth);
            if (tokens.isSign('<') || tokens.isSign('=')) {
                int step = tokens.isSign('<') ? Law.LESS : Law.SAME;
                tokens.step();
                readSum(depth);
                law.add(step);
            }
        }

        private void readSum(int depth) {
            readProduct(depth);
            for (int more = 0; more < Tape.MOST && (tokens.isSign('+') || tokens.isSign('-')); more++) {
                int step = tokens.isSign('+') ? Law.PLUS : Law.MINUS;
                tokens.step();
                readProduct(depth);
                law.add(step);
            }
        }

        private void readProduct(int depth) {
            readPart(depth);
            for (int more = 0; more < Tape.MOST && tokens.isSign('*'); more++) {
                tokens.step();
                readPart(depth);
                law.add(Law.TIMES);
            }
        }

        private void readPart(int depth) {
            if (!canBeginPart()) {
                tokens.complain(Tokens.UNFIT);
                return;
            }
            if (depth >= TOO_DEEP) {
                tokens.complain(Tokens.TOO_MANY);
                return;
            }
            if (tokens.isWord(Tokens.NOT)) {
                tokens.step();
                readPart(depth + 1);
                law.add(Law.NOT);
            } else if (tokens.isSign('(')) {
                tokens.step();
                readE(depth + 1);
                tokens.takeSign(')');
            } else {
                law.add(tokens.kind == Tokens.NUMBER ? tokens.value : factStep());
                tokens.step();
            }
        }

        private boolean canBeginPart() {
            return tokens.kind == Tokens.NUMBER || tokens.isSign('(') || tokens.isWord(Tokens.NOT) || factStep() != 0;
        }

        private int factStep() {
            if (tokens.kind != Tokens.WORD) {
                return 0;
            }
            switch (tokens.value) {
                case Tokens.LEFT: return Law.LEFT;
                case Tokens.TOUGH: return Law.TOUGH;
                case Tokens.WET: return Law.WET;
                case Tokens.USED: return Law.USED;
                default: return 0;
            }
        }
    }

    /** What a CONGRESS tells: powers, cakes as they were sent, slivers, the law. */
    private static final class Congress {
        static final int POWERS = 5;
        static final int CAKES = 7;
        static final int THICKEST = 40;
        static final int NAVAL = 1;
        static final int DRY = 2;
        static final int CARVER = 3;
        private static final int USUAL_SLIVER = 2;
        private static final int MOST_WEAR = 9;

        int powers;
        final long[] powerName = new long[POWERS];
        final int[] kind = new int[POWERS];
        final int[] water = new int[POWERS];
        int cakes;
        final long[] cakeName = new long[CAKES];
        final int[] sender = new int[CAKES];
        final int[] receiver = new int[CAKES];
        final int[] thick = new int[CAKES];
        final int[] hard = new int[CAKES];
        final int[] pebble = new int[CAKES];
        int sliver;
        final Law law = new Law();

        Congress() {
            sliver = USUAL_SLIVER;
            law.tellUsual();
        }

        void clear() {
            powers = 0;
            cakes = 0;
            sliver = USUAL_SLIVER;
            law.tellUsual();
        }

        void copyFrom(Congress other) {
            powers = other.powers;
            System.arraycopy(other.powerName, 0, powerName, 0, POWERS);
            System.arraycopy(other.kind, 0, kind, 0, POWERS);
            System.arraycopy(other.water, 0, water, 0, POWERS);
            cakes = other.cakes;
            System.arraycopy(other.cakeName, 0, cakeName, 0, CAKES);
            System.arraycopy(other.sender, 0, sender, 0, CAKES);
            System.arraycopy(other.receiver, 0, receiver, 0, CAKES);
            System.arraycopy(other.thick, 0, thick, 0, CAKES);
            System.arraycopy(other.hard, 0, hard, 0, CAKES);
            System.arraycopy(other.pebble, 0, pebble, 0, CAKES);
            sliver = other.sliver;
            law.copyFrom(other.law);
        }

        boolean hasPower(int power) {
            return power >= 0 && power < powers && power < POWERS;
        }

        boolean hasCake(int cake) {
            return cake >= 0 && cake < cakes && cake < CAKES;
        }

        int kindOf(int power) {
            return hasPower(power) ? kind[power] : NONE;
        }

        int waterOf(int power) {
            return hasPower(power) ? water[power] : NONE;
        }

        int cakeBits() {
            return (1 << cakes) - 1;
        }

        int dryBits() {
            int bits = 0;
            for (int power = 0; power < powers; power++) {
                if (kind[power] == DRY) {
                    bits |= 1 << power;
                }
            }
            return bits;
        }

        int powerNamed(long name) {
            for (int power = 0; power < powers; power++) {
                if (powerName[power] == name) {
                    return power;
                }
            }
            return NONE;
        }

        int cakeNamed(long name) {
            for (int cake = 0; cake < cakes; cake++) {
                if (cakeName[cake] == name) {
                    return cake;
                }
            }
            return NONE;
        }

        /** How thick a cake is that a power has washed with once more. */
        int thickWashed(int cake, int power, int left, int used) {
            if (!hasCake(cake) || kindOf(power) == CARVER) {
                return left;
            }
            int wear = Math.max(0, Math.min(MOST_WEAR, law.valueFor(left, hard[cake], waterOf(power), used)));
            return Math.max(0, left - (kindOf(power) == NAVAL ? wear / 2 : wear));
        }
    }

    /** The lines of YEARS. */
    private static final class Lines {
        static final int MOST = 40;

        int size;
        final int[] act = new int[MOST];
        final int[] cake = new int[MOST];
        final int[] power = new int[MOST];

        void add(int newAct, int newCake, int newPower) {
            if (size < MOST) {
                act[size] = newAct;
                cake[size] = newCake;
                power[size] = newPower;
                size++;
            }
        }

        void copyFrom(Lines other) {
            size = other.size;
            System.arraycopy(other.act, 0, act, 0, MOST);
            System.arraycopy(other.cake, 0, cake, 0, MOST);
            System.arraycopy(other.power, 0, power, 0, MOST);
        }
    }

    /** Reads the tape into drafts, so that all stays as it is if there is a fault. */
    private static final class Reader {
        final Congress draft;
        final Lines draftLines;
        private final Congress told;
        private final Tokens tokens;
        private final LawReader lawReader;
        private boolean sliverTold;
        private boolean wearsTold;

        Reader(Tape tape, Congress told) {
            this.told = told;
            draft = new Congress();
            draftLines = new Lines();
            tokens = new Tokens(tape);
            lawReader = new LawReader(tokens, draft.law);
        }

        int readCongress() {
            draft.clear();
            sliverTold = false;
            wearsTold = false;
            tokens.begin();
            for (int line = 0; line < Tape.MOST && tokens.isMore(); line++) {
                switch (tokens.kind == Tokens.WORD ? tokens.value : NONE) {
                    case Tokens.POWER: readPower(); break;
                    case Tokens.CAKE: readCake(); break;
                    case Tokens.PEBBLE: readPebble(); break;
                    case Tokens.SLIVER: readSliver(); break;
                    case Tokens.WEARS: readWears(); break;
                    default: tokens.complain(Tokens.UNFIT); break;
                }
                tokens.takeSign(';');
            }
            return tokens.fault;
        }

        private void readPower() {
            int power = draft.powers;
            if (power >= Congress.POWERS) {
                tokens.complain(Tokens.TOO_MANY);
                return;
            }
            tokens.step();
            draft.powerName[power] = takeNewName();
            draft.kind[power] = takeKind();
            tokens.takeWord(Tokens.WATER);
            draft.water[power] = tokens.takeNumber(0, 9);
            draft.powers++;
        }

        private void readCake() {
            int cake = draft.cakes;
            if (cake >= Congress.CAKES) {
                tokens.complain(Tokens.TOO_MANY);
                return;
            }
            tokens.step();
            draft.cakeName[cake] = takeNewName();
            tokens.takeWord(Tokens.FROM);
            draft.sender[cake] = takePower(draft, NONE);
            tokens.takeWord(Tokens.TO);
            draft.receiver[cake] = takePower(draft, draft.sender[cake]);
            tokens.takeWord(Tokens.THICK);
            draft.thick[cake] = tokens.takeNumber(1, Congress.THICKEST);
            tokens.takeWord(Tokens.HARD);
            draft.hard[cake] = tokens.takeNumber(0, 9);
            draft.pebble[cake] = NONE;
            draft.cakes++;
        }

        private void readPebble() {
            tokens.step();
            int cake = namedCake(draft);
            if (!draft.hasCake(cake)) {
                return;
            }
            if (draft.pebble[cake] != NONE) {
                tokens.complain(Tokens.TOLD);
            }
            tokens.step();
            draft.pebble[cake] = tokens.takeNumber(0, Congress.THICKEST - 1);
        }

        private void readSliver() {
            if (sliverTold) {
                tokens.complain(Tokens.TOLD);
            }
            sliverTold = true;
            tokens.step();
            draft.sliver = tokens.takeNumber(1, 9);
        }

        private void readWears() {
            if (wearsTold) {
                tokens.complain(Tokens.TOLD);
            }
            wearsTold = true;
            tokens.step();
            draft.law.clear();
            lawReader.readE(0);
        }

        int readYears() {
            draftLines.size = 0;
            tokens.begin();
            for (int line = 0; line < Tape.MOST && tokens.isMore(); line++) {
                readLine();
            }
            return tokens.fault;
        }

        private void readLine() {
            int word = tokens.kind == Tokens.WORD ? tokens.value : NONE;
            if (word < Tokens.WASH || word > Tokens.WEEK) {
                tokens.complain(Tokens.UNFIT);
            } else if (draftLines.size >= Lines.MOST) {
                tokens.complain(Tokens.TOO_MANY);
            }
            int act = word - Tokens.WASH;
            tokens.step();
            int cake = NONE;
            if (act != State.WEEK) {
                cake = namedCake(told);
                tokens.step();
            }
            int power = act == State.GIFT ? takePower(told, NONE) : NONE;
            tokens.takeSign(';');
            draftLines.add(act, cake, power);
        }

        private long takeNewName() {
            long name = tokens.spelling;
            if (!tokens.isName()) {
                tokens.complain(Tokens.UNFIT);
            } else if (draft.powerNamed(name) != NONE || draft.cakeNamed(name) != NONE) {
                tokens.complain(Tokens.TOLD);
            }
            tokens.step();
            return name;
        }

        private int takeKind() {
            int kind = tokens.value - Tokens.PLAIN;
            if (tokens.kind != Tokens.WORD || kind < 0 || kind > Congress.CARVER) {
                tokens.complain(Tokens.UNFIT);
            }
            tokens.step();
            return kind;
        }

        private int takePower(Congress congress, int barred) {
            int power = NONE;
            if (!tokens.isName()) {
                tokens.complain(Tokens.UNFIT);
            } else {
                power = congress.powerNamed(tokens.spelling);
            }
            if (power == NONE) {
                tokens.complain(Tokens.UNKNOWN);
            } else if (power == barred) {
                tokens.complain(Tokens.TOLD);
            }
            tokens.step();
            return power;
        }

        private int namedCake(Congress congress) {
            if (!tokens.isName()) {
                tokens.complain(Tokens.UNFIT);
                return NONE;
            }
            int cake = congress.cakeNamed(tokens.spelling);
            if (cake == NONE) {
                tokens.complain(Tokens.UNKNOWN);
            }
            return cake;
        }
    }

    /** How it is: whose each cake is, what is left of it, the hairs, the lump, the week. */
    private static final class State {
        static final int WASH = 0;
        static final int HAIR = 1;
        static final int PICK = 2;
        static final int GIFT = 3;
        static final int PRESS = 4;
        static final int WEEK = 5;
        /** What is not so by that many weeks counts as never. */
        static final int FURTHEST = 99;

        private final Congress congress;
        final int[] owner = new int[Congress.CAKES];
        final int[] thick = new int[Congress.CAKES];
        final int[] used = new int[Congress.CAKES];
        int hairs;
        int lump;
        int week;

        State(Congress congress) {
            this.congress = congress;
        }

        void begin() {
            System.arraycopy(congress.receiver, 0, owner, 0, Congress.CAKES);
            System.arraycopy(congress.thick, 0, thick, 0, Congress.CAKES);
            for (int cake = 0; cake < Congress.CAKES; cake++) {
                used[cake] = 0;
            }
            hairs = 0;
            lump = 0;
            week = 0;
        }

        void copyFrom(State other) {
            System.arraycopy(other.owner, 0, owner, 0, Congress.CAKES);
            System.arraycopy(other.thick, 0, thick, 0, Congress.CAKES);
            System.arraycopy(other.used, 0, used, 0, Congress.CAKES);
            hairs = other.hairs;
            lump = other.lump;
            week = other.week;
        }

        boolean isThere(int cake) {
            return congress.hasCake(cake) && thick[cake] > 0;
        }

        boolean hasHair(int cake) {
            return (hairs >> cake & 1) == 1;
        }

        boolean isFound(int cake) {
            return congress.hasCake(cake) && congress.pebble[cake] != NONE && thick[cake] <= congress.pebble[cake];
        }

        boolean isAnyFound() {
            for (int cake = 0; cake < congress.cakes; cake++) {
                if (isFound(cake)) {
                    return true;
                }
            }
            return false;
        }

        boolean can(int act, int cake, int power) {
            if (act == WEEK) {
                return true;
            }
            if (!congress.hasCake(cake)) {
                return false;
            }
            switch (act) {
                case WASH: case HAIR: return isThere(cake) && !hasHair(cake);
                case PICK: return hasHair(cake);
                case GIFT: return isThere(cake) && congress.hasPower(power) && power != owner[cake];
                case PRESS: return isThere(cake) && used[cake] > 0;
                default: return false;
            }
        }

        boolean attempt(int act, int cake, int power) {
            if (act == WEEK) {
                passOneWeek();
                return true;
            }
            if (!congress.hasCake(cake) || !can(act, cake, power)) {
                return false;
            }
            switch (act) {
                case WASH: washOnce(cake); break;
                case HAIR: hairs |= 1 << cake; break;
                case PICK: hairs &= ~(1 << cake); break;
                case GIFT: owner[cake] = power; break;
                default: lump += thick[cake]; thick[cake] = 0; break;
            }
            return true;
        }

        private void washOnce(int cake) {
            if (!congress.hasCake(cake)) {
                return;
            }
            thick[cake] = congress.thickWashed(cake, owner[cake], thick[cake], used[cake]);
            used[cake]++;
        }

        private void passOneWeek() {
            for (int cake = 0; cake < congress.cakes; cake++) {
                if (isThere(cake) && canWear(cake, owner[cake])) {
                    washOnce(cake);
                }
            }
            week++;
        }

        private boolean canWear(int cake, int power) {
            return !hasHair(cake) && congress.kindOf(power) != Congress.DRY;
        }

        /** Cakes wear apart from one another, so that one is followed alone. */
        int weeksTo(int level, int cake, int power) {
            if (!congress.hasCake(cake)) {
                return NONE;
            }
            int left = thick[cake];
            for (int weeks = 0; weeks <= FURTHEST; weeks++) {
                if (left <= level) {
                    return weeks;
                }
                if (!canWear(cake, power)) {
                    return NONE;
                }
                left = congress.thickWashed(cake, power, left, used[cake] + weeks);
            }
            return NONE;
        }

        int thickBehind(int weeks, int cake) {
            if (!congress.hasCake(cake)) {
                return 0;
            }
            int left = thick[cake];
            for (int past = 0; past < weeks && left > 0 && canWear(cake, owner[cake]); past++) {
                left = congress.thickWashed(cake, owner[cake], left, used[cake] + past);
            }
            return left;
        }

        int thereBits() {
            int bits = 0;
            for (int cake = 0; cake < congress.cakes; cake++) {
                if (thick[cake] > 0) {
                    bits |= 1 << cake;
                }
            }
            return bits;
        }

        int cakesOf(int power) {
            int bits = 0;
            for (int cake = 0; cake < congress.cakes; cake++) {
                if (owner[cake] == power) {
                    bits |= 1 << cake;
                }
            }
            return bits;
        }

        int slivers() {
            int bits = 0;
            for (int cake = 0; cake < congress.cakes; cake++) {
                if (thick[cake] > 0 && thick[cake] <= congress.sliver) {
                    bits |= 1 << cake;
                }
            }
            return bits;
        }

        int thickOf(int set) {
            int together = 0;
            for (int cake = 0; cake < congress.cakes; cake++) {
                if ((set >> cake & 1) == 1) {
                    together += thick[cake];
                }
            }
            return together;
        }

        boolean canPressAll(int set) {
            for (int cake = 0; cake < congress.cakes; cake++) {
                if ((set >> cake & 1) == 1 && !can(PRESS, cake, NONE)) {
                    return false;
                }
            }
            return true;
        }

        /** A hair in a cake that came back to its sender is between no two. */
        int warringCakes() {
            int bits = 0;
            for (int cake = 0; cake < congress.cakes; cake++) {
                if (thick[cake] > 0 && hasHair(cake) && congress.sender[cake] != owner[cake]) {
                    bits |= 1 << cake;
                }
            }
            return bits;
        }

        /** Pairs fill one int: five times five bits. */
        private static int pairBit(int power, int other) {
            return 1 << power * Congress.POWERS + other;
        }

        private static boolean hasPair(int pairs, int power, int other) {
            return (pairs & pairBit(power, other)) != 0;
        }

        private static int othersOf(int pairs, int power) {
            return pairs >> power * Congress.POWERS & (1 << Congress.POWERS) - 1;
        }

        private int warPairs() {
            int warring = warringCakes();
            int pairs = 0;
            for (int cake = 0; cake < congress.cakes; cake++) {
                if ((warring >> cake & 1) == 1) {
                    pairs |= pairBit(owner[cake], congress.sender[cake]) | pairBit(congress.sender[cake], owner[cake]);
                }
            }
            return pairs;
        }

        private int earnestPairs() {
            int washed = 0;
            for (int cake = 0; cake < congress.cakes; cake++) {
                if (used[cake] > 0) {
                    washed |= pairBit(owner[cake], congress.sender[cake]);
                }
            }
            int peaceful = washed & ~warPairs();
            int pairs = 0;
            for (int power = 0; power < congress.powers; power++) {
                for (int other = 0; other < congress.powers; other++) {
                    if (power != other && hasPair(peaceful, power, other) && hasPair(peaceful, other, power)) {
                        pairs |= pairBit(power, other);
                    }
                }
            }
            return pairs;
        }

        int foesOf(int power) {
            return othersOf(warPairs(), power);
        }

        boolean areInEarnest(int power, int other) {
            return hasPair(earnestPairs(), power, other);
        }

        /** As many rounds as there are powers: no way among them is longer. */
        int blocOf(int power) {
            int pairs = earnestPairs();
            int bloc = 1 << power;
            for (int round = 0; round < congress.powers; round++) {
                for (int member = 0; member < congress.powers; member++) {
                    if ((bloc >> member & 1) == 1) {
                        bloc |= othersOf(pairs, member);
                    }
                }
            }
            return bloc;
        }

        int pairsAtWar() {
            return Integer.bitCount(warPairs()) / 2;
        }

        int pairsInEarnest() {
            return Integer.bitCount(earnestPairs()) / 2;
        }
    }

    /** How it was before each of the last things done. */
    private static final class Past {
        private static final int MOST = 16;

        private final State[] states = new State[MOST];
        private int next;
        int kept;

        Past(Congress congress) {
            for (int i = 0; i < MOST; i++) {
                states[i] = new State(congress);
            }
        }

        void keep(State state) {
            states[next].copyFrom(state);
            next = (next + 1) % MOST;
            kept = Math.min(MOST, kept + 1);
        }

        boolean giveBack(State state) {
            if (kept == 0) {
                return false;
            }
            next = (next + MOST - 1) % MOST;
            kept--;
            state.copyFrom(states[next]);
            return true;
        }
    }

    /** What was seen: cakes, behind how many weeks, how thick. */
    private static final class Seen {
        static final int MOST = 8;

        int size;
        final int[] cake = new int[MOST];
        final int[] weeks = new int[MOST];
        final int[] thick = new int[MOST];

        boolean add(int newCake, int newWeeks, int newThick) {
            if (size >= MOST) {
                return false;
            }
            cake[size] = newCake;
            weeks[size] = newWeeks;
            thick[size] = newThick;
            size++;
            return true;
        }

        void copyFrom(Seen other) {
            size = other.size;
            System.arraycopy(other.cake, 0, cake, 0, MOST);
            System.arraycopy(other.weeks, 0, weeks, 0, MOST);
            System.arraycopy(other.thick, 0, thick, 0, MOST);
        }
    }

    /** All that a mark holds. */
    private static final class Page {
        final State state;
        final Lines lines;
        final Seen seen;

        Page(Congress congress) {
            state = new State(congress);
            lines = new Lines();
            seen = new Seen();
        }

        void begin() {
            state.begin();
            lines.size = 0;
            seen.size = 0;
        }

        void copyFrom(Page other) {
            state.copyFrom(other.state);
            lines.copyFrom(other.lines);
            seen.copyFrom(other.seen);
        }
    }
}
