import java.util.Arrays;

/** A net of roads, each of which must be driven with what the last one carried there, or empty. */
public final class LastLoads {
    /** None. */
    public static final int NONE = -1;

    private static final int CANNOT = -2;
    private static final int UNKNOWN = -3;

    private static final int MAX_BYTES = 400;
    private static final int FEED_BYTES = 20;
    private static final int MAX_PLACES = 10;
    private static final int MAX_ROADS = 16;
    private static final int MAX_CARTERS = 4;
    private static final int MAX_LOADS = 8;
    private static final int MAX_RULES = 6;
    private static final int MAX_KIND = 7;
    private static final int MAX_DAYS = 9;
    private static final int MAX_DAY = 9999;
    private static final int IMAGES = 4;

    private final Tape tape;
    private final NetReader netReader;
    private final RuleReader ruleReader;
    private final Laws laws;
    private final Finder finder;
    private final Planner planner;
    private final Orders orders;
    private final State now;
    private final State spare;
    private final State[] images;
    private final boolean[] made;

    /** No NET, no RULES, none IN FORCE. */
    public LastLoads() {
        tape = new Tape();
        netReader = new NetReader(tape);
        ruleReader = new RuleReader(tape);
        laws = new Laws();
        finder = new Finder(laws);
        planner = new Planner(laws);
        orders = new Orders(finder);
        now = new State();
        spare = new State();
        images = new State[IMAGES];
        made = new boolean[IMAGES];
        for (int k = 0; k < IMAGES; k++) {
            images[k] = new State();
        }
    }

    /** Twenty bytes come behind the TAPE. */
    public int feed(int a, int b, int c, int d, int e) {
        if (tape.length + FEED_BYTES > MAX_BYTES) {
            return NONE;
        }
        tape.put(a);
        tape.put(b);
        tape.put(c);
        tape.put(d);
        tape.put(e);
        return tape.length;
    }

    /** The TAPE has its first n bytes alone. */
    public int end(int n) {
        if (n < 0 || n > tape.length) {
            return NONE;
        }
        tape.length = n;
        return n;
    }

    /** The TAPE is the NET. */
    public int net() {
        spare.clear();
        spare.roads.force = now.roads.force;
        spare.x = now.x;
        netReader.read(spare);
        tape.length = 0;
        if (tape.fault != 0) {
            return -2 - tape.fault;
        }
        now.copy(spare);
        return now.roads.size;
    }

    /** The TAPE is a RULE. */
    public int rule() {
        if (laws.size >= MAX_RULES) {
            return NONE;
        }
        ruleReader.read();
        tape.length = 0;
        if (tape.fault != 0) {
            return -2 - tape.fault;
        }
        return laws.add(ruleReader.made());
    }

    /** A RULE is IN FORCE, or none. */
    public int force(int rule) {
        if (rule < NONE || rule >= laws.size) {
            return -2;
        }
        int before = now.roads.force;
        now.roads.force = rule;
        return before;
    }

    /** What is known of a ROAD. */
    public int road(int road, int what) {
        if (!now.roads.hasRoad(road)) {
            return NONE;
        }
        switch (what) {
            case 0: return now.roads.one[road];
            case 1: return now.roads.other[road];
            case 2: return now.roads.days[road];
            case 3: return now.roads.last[road];
            case 4: return now.roads.runs[road];
            default: return NONE;
        }
    }

    /** What is known of a CARTER. */
    public int carter(int carter, int what) {
        if (!now.hasCarter(carter)) {
            return NONE;
        }
        switch (what) {
            case 0: return now.stands[carter];
            case 1: return now.carries[carter];
            case 2: return now.day[carter];
            default: return NONE;
        }
    }

    /** What is known of a LOAD. */
    public int load(int load, int what) {
        if (!now.hasLoad(load)) {
            return NONE;
        }
        switch (what) {
            case 0: return now.kind[load];
            case 1: return now.lies[load];
            case 2: return now.goal[load];
            case 3: return now.worth[load];
            case 4: return now.isThere(load) ? 1 : 0;
            default: return NONE;
        }
    }

    /** BY HAND a CARTER DRIVES. */
    public int drive(int carter, int road) {
        Roads roads = now.roads;
        if (!now.hasCarter(carter) || !roads.hasRoad(road)) {
            return NONE;
        }
        int from = now.stands[carter];
        int kind = now.kindCarried(carter);
        int day = now.day[carter];
        int law = laws.broken(roads, road, from, kind, day);
        if (law != 0) {
            return -2 - law;
        }
        if (day + roads.days[road] > MAX_DAY) {
            return -2;
        }
        int last = laws.lastAfter(roads, road, from, kind, day);
        roads.note(road, last);
        now.day[carter] = day + roads.days[road];
        now.stands[carter] = roads.across(road, from);
        return now.stands[carter];
    }

    /** BY HAND a CARTER takes a LOAD. */
    public boolean take(int carter, int load) {
        if (!now.hasCarter(carter) || !now.hasLoad(load)) {
            return false;
        }
        if (now.carries[carter] != NONE || now.lies[load] != now.stands[carter]) {
            return false;
        }
        now.carries[carter] = load;
        now.lies[load] = NONE;
        return true;
    }

    /** BY HAND a CARTER lays his LOAD down. */
    public int lay(int carter) {
        if (!now.hasCarter(carter) || !now.hasLoad(now.carries[carter])) {
            return NONE;
        }
        int load = now.carries[carter];
        now.carries[carter] = NONE;
        now.lies[load] = now.stands[carter];
        return load;
    }

    /** SOONEST. */
    public int soonest(int kind, int from, int to) {
        if (!canAsk(kind, from, to)) {
            return NONE;
        }
        finder.look(now.roads, kind);
        finder.measure(now.roads, to);
        return finder.costFrom(from);
    }

    /** The k-th ROAD of the WAY. */
    public int way(int kind, int from, int to, int k) {
        if (!canAsk(kind, from, to) || k < 0) {
            return NONE;
        }
        finder.look(now.roads, kind);
        finder.measure(now.roads, to);
        return finder.roadOfWay(now.roads, from, to, k);
    }

    /** REACHED, as bits. */
    public int reached(int kind, int from) {
        if (!canAsk(kind, from, from)) {
            return NONE;
        }
        finder.look(now.roads, kind);
        return finder.placesFrom(now.roads, from);
    }

    /** WIPED. */
    public int wiped(int kind, int from, int to, int what) {
        if (!canAsk(kind, from, to) || what < 0 || what > 1) {
            return NONE;
        }
        finder.lookAsIfWiped(now.roads, kind);
        finder.measure(now.roads, to);
        int cost = finder.costFrom(from);
        if (cost == CANNOT) {
            return CANNOT;
        }
        return what == 0 ? cost / Finder.WIPING : cost % Finder.WIPING;
    }

    /** PLAN. */
    public int plan(int carter, int load) {
        if (!now.hasCarter(carter) || now.carries[carter] != NONE || !now.waits(load)) {
            return NONE;
        }
        return planner.fewestDays(now, carter, load);
    }

    /** STUCK, as bits. */
    public int stuck() {
        if (!now.hasNet()) {
            return NONE;
        }
        return finder.stuckIn(now, now.roads);
    }

    /** BEST ORDER. */
    public int order(int what) {
        if (!now.hasNet() || what < 0 || what > Orders.LONGEST + 1) {
            return NONE;
        }
        orders.findBest(now, NONE);
        switch (what) {
            case 0: return orders.bestWorth;
            case 1: return orders.bestGone;
            default: return orders.bestAt(what - 2);
        }
    }

    /** DEAR. */
    public int dear(int road) {
        if (!now.roads.hasRoad(road)) {
            return NONE;
        }
        orders.findBest(now, NONE);
        int before = orders.bestWorth;
        orders.findBest(now, road);
        return orders.bestWorth - before;
    }

    /** NEW ROAD. */
    public int better(int days, int what) {
        if (days < 1 || days > MAX_DAYS || what < 0 || what > 2 || now.roads.places < 2) {
            return NONE;
        }
        finder.findNewRoad(now, days);
        switch (what) {
            case 0: return finder.newOne;
            case 1: return finder.newOther;
            default: return finder.newStuck;
        }
    }

    /** FOUND of a ROAD. */
    public boolean found(int road, int last) {
        if (!now.roads.hasRoad(road) || last < NONE || last > MAX_KIND) {
            return false;
        }
        now.seen[road] = last;
        return true;
    }

    /** WHO DROVE. */
    public int drove(int n, int what) {
        if (!now.hasNet() || n < 1 || n > Orders.LONGEST_ROW || what < 0 || what > 4) {
            return NONE;
        }
        if (what != 4 && what > n) {
            return NONE;
        }
        orders.findRows(now, n);
        switch (what) {
            case 0: return orders.rows;
            case 4: return orders.inAll;
            default: return orders.firstAt(what - 1);
        }
    }

    /** x becomes a number. */
    public int seed(int x) {
        if (x < 0) {
            return NONE;
        }
        int before = now.x;
        now.x = x;
        return before;
    }

    /** WEEKS. */
    public int weeks(int m, int n, int what) {
        if (!now.hasNet() || m < 1 || m > 20 || n < 1 || n > 30 || what < 0 || what > 1) {
            return NONE;
        }
        finder.runWeeks(now, m, n);
        return what == 0 ? finder.weeksGone : finder.weeksDays;
    }

    /** How many there are, and the like. */
    public int count(int what) {
        switch (what) {
            case 0: return now.roads.places;
            case 1: return now.roads.size;
            case 2: return now.carters;
            case 3: return now.loads;
            case 4: return now.countThere();
            case 5: return now.roads.all;
            case 6: return laws.size;
            case 7: return now.roads.force;
            case 8: return now.countSeen();
            case 9: return now.x;
            case 10: return tape.length;
            case 11: return now.roads.countUnused();
            default: return NONE;
        }
    }

    /** An IMAGE is made. */
    public int image(int k) {
        if (k < 0 || k >= IMAGES) {
            return NONE;
        }
        images[k].copy(now);
        made[k] = true;
        return now.roads.all;
    }

    /** All is as in an IMAGE. */
    public int back(int k) {
        if (k < 0 || k >= IMAGES || !made[k]) {
            return NONE;
        }
        now.copy(images[k]);
        return now.roads.all;
    }

    private boolean canAsk(int kind, int from, int to) {
        return kind >= 1 && kind <= MAX_KIND && now.roads.hasPlace(from) && now.roads.hasPlace(to);
    }

    /** The TAPE, how far it is read, and the first FAULT seen there (0: none). */
    private static final class Tape {
        static final int END = -1;

        static final int NOT_HERE = 0;
        static final int NOT_AS_TOLD = 1;
        static final int TOO_DEEP = 2;
        static final int TOO_MANY_VALUES = 3;
        static final int TOO_MANY_CLAUSES = 4;

        private static final int MAX_DIGITS = 5;

        final int[] bytes = new int[MAX_BYTES];
        int length;
        int at;
        int fault;

        void put(int number) {
            for (int shift = 24; shift >= 0; shift -= 8) {
                if (length < MAX_BYTES) {
                    bytes[length] = (number >>> shift) & 255;
                    length++;
                }
            }
        }

        void rewind() {
            at = 0;
            fault = 0;
        }

        void fail(int place, int why) {
            if (fault == 0) {
                fault = 1 + 8 * place + why;
            }
        }

        /** The next byte that is no blank, which is not passed yet. */
        int peek() {
            while (at < length && at < MAX_BYTES && bytes[at] == ' ') {
                at++;
            }
            return at < length && at < MAX_BYTES ? bytes[at] : END;
        }

        boolean passSign(char sign) {
            if (peek() != sign) {
                return false;
            }
            at++;
            return true;
        }

        /** Passes a word if it stands next and no further small letter goes on with it. */
        boolean passWord(String word) {
            peek();
            int behind = at + word.length();
            if (behind > length || behind > MAX_BYTES) {
                return false;
            }
            for (int i = at; i < behind; i++) {
                if (bytes[i] != word.charAt(i - at)) {
                    return false;
                }
            }
            if (behind < length && behind < MAX_BYTES && bytes[behind] >= 'a' && bytes[behind] <= 'z') {
                return false;
            }
            at = behind;
            return true;
        }

        /** Passes a word of a row, each with a blank behind it: its number there, or NONE if none stands next. */
        int passOneOf(String row) {
            peek();
            int number = 0;
            int i = at;
            boolean same = true;
            for (int k = 0; k < row.length(); k++) {
                int next = i < length && i < MAX_BYTES ? bytes[i] : END;
                if (row.charAt(k) != ' ') {
                    same = same && next == row.charAt(k);
                    i++;
                    continue;
                }
                if (same && (next < 'a' || next > 'z')) {
                    at = i;
                    return number;
                }
                number++;
                i = at;
                same = true;
            }
            return NONE;
        }

        /** Passes a NUMBER from least to most, but for one that it must not be. */
        int passNumber(int least, int most, int unlike) {
            int sign = peek();
            int start = at;
            if (sign < '0' || sign > '9') {
                fail(start, NOT_HERE);
                return 0;
            }
            int value = 0;
            while (at < length && at < MAX_BYTES && bytes[at] >= '0' && bytes[at] <= '9') {
                if (at - start < MAX_DIGITS) {
                    value = value * 10 + bytes[at] - '0';
                }
                at++;
            }
            if (at - start > MAX_DIGITS || value < least || value > most || value == unlike) {
                fail(start, NOT_AS_TOLD);
            }
            return value;
        }

        /** Whether another CLAUSE follows; what is neither that nor the end is a FAULT. */
        boolean goesOn() {
            if (fault != 0) {
                return false;
            }
            int sign = peek();
            if (sign == END) {
                return false;
            }
            if (sign != ';') {
                fail(at, NOT_HERE);
                return false;
            }
            at++;
            return true;
        }
    }

    /** Reads the TAPE as a NET. */
    private static final class NetReader {
        private static final int MAX_CLAUSES = 40;

        private final Tape tape;

        NetReader(Tape tape) {
            this.tape = tape;
        }

        /** The state must be clear; behind a FAULT it is of no use. */
        void read(State state) {
            tape.rewind();
            for (int clause = 0; clause < MAX_BYTES; clause++) {
                readClause(state, clause);
                if (!tape.goesOn()) {
                    return;
                }
            }
        }

        private void readClause(State state, int clause) {
            tape.peek();
            int start = tape.at;
            boolean late = clause >= MAX_CLAUSES;
            if (tape.passWord("places")) {
                if (allows(start, clause == 0)) {
                    state.roads.places = tape.passNumber(1, MAX_PLACES, NONE);
                }
                return;
            }
            boolean inside = clause > 0 && !late;
            if (tape.passWord("road")) {
                if (allows(start, inside && state.roads.size < MAX_ROADS)) {
                    readRoad(state.roads);
                }
            } else if (tape.passWord("carter")) {
                if (allows(start, inside && state.carters < MAX_CARTERS)) {
                    state.addCarter(tape.passNumber(0, state.roads.places - 1, NONE));
                }
            } else if (tape.passWord("load")) {
                if (allows(start, inside && state.loads < MAX_LOADS)) {
                    readLoad(state);
                }
            } else {
                tape.fail(start, Tape.NOT_HERE);
            }
        }

        private boolean allows(int start, boolean allowed) {
            if (!allowed) {
                tape.fail(start, Tape.TOO_MANY_CLAUSES);
            }
            return allowed;
        }

        private void readRoad(Roads roads) {
            int one = tape.passNumber(0, roads.places - 1, NONE);
            int other = tape.passNumber(0, roads.places - 1, one);
            int days = tape.passNumber(1, MAX_DAYS, NONE);
            int last = tape.passNumber(0, MAX_KIND, NONE);
            roads.add(one, other, days, last);
        }

        private void readLoad(State state) {
            int kind = tape.passNumber(1, MAX_KIND, NONE);
            int from = tape.passNumber(0, state.roads.places - 1, NONE);
            int to = tape.passNumber(0, state.roads.places - 1, from);
            int worth = tape.passNumber(0, 99, NONE);
            state.addLoad(kind, from, to, worth);
        }
    }

    /** A RULE: its bar TESTS and its wipe TESTS, as codes in the order in which they are worked out. */
    private static final class Rule {
        /** Below this a code is a NUMBER; from here on the WORDS, then the signs. */
        static final int WORD = 100000;
        static final int WORDS = 9;
        static final int PLUS = WORD + WORDS;
        static final int MINUS = PLUS + 1;
        static final int TIMES = PLUS + 2;
        static final int BY = PLUS + 3;
        static final int BELOW = PLUS + 4;
        static final int AT_MOST = PLUS + 5;
        static final int SAME = PLUS + 6;
        static final int AT_LEAST = PLUS + 7;
        static final int ABOVE = PLUS + 8;
        static final int AND = PLUS + 9;
        static final int OR = PLUS + 10;
        static final int NOT = PLUS + 11;
        /** Ends a TEST: if it holds, no further one need be asked. */
        static final int ENOUGH = PLUS + 12;

        final int[] bars;
        final int[] wipes;

        Rule(int[] bars, int[] wipes) {
            this.bars = bars;
            this.wipes = wipes;
        }
    }

    /** Reads the TAPE as a RULE. */
    private static final class RuleReader {
        private static final int MAX_CLAUSES = 12;
        private static final int MAX_DEPTH = 10;
        private static final int MAX_VALUES = 60;
        private static final int BARS = 0;
        private static final int WIPES = 1;

        private final Tape tape;
        /** Each code comes of a byte of its own or of the word ahead of its TEST, so the TAPE's bytes are enough. */
        private final int[][] codes = new int[2][MAX_BYTES];
        private final int[] sizes = new int[2];
        private int side;
        private int values;

        RuleReader(Tape tape) {
            this.tape = tape;
        }

        Rule made() {
            return new Rule(Arrays.copyOf(codes[BARS], sizes[BARS]), Arrays.copyOf(codes[WIPES], sizes[WIPES]));
        }

        void read() {
            tape.rewind();
            sizes[BARS] = 0;
            sizes[WIPES] = 0;
            values = 0;
            for (int clause = 0; clause < MAX_BYTES; clause++) {
                tape.peek();
                int start = tape.at;
                if (tape.passWord("bar")) {
                    side = BARS;
                } else if (tape.passWord("wipe")) {
                    side = WIPES;
                } else {
                    tape.fail(start, Tape.NOT_HERE);
                }
                if (clause >= MAX_CLAUSES) {
                    tape.fail(start, Tape.TOO_MANY_CLAUSES);
                }
                readTest(0);
                write(Rule.ENOUGH);
                if (!tape.goesOn()) {
                    return;
                }
            }
        }

        private void write(int code) {
            int size = sizes[side];
            if (size < MAX_BYTES) {
                codes[side][size] = code;
                sizes[side] = size + 1;
            }
        }

        /** An or is written when the PART behind it is whole, as and binds closer. */
        private void readTest(int depth) {
            boolean or = false;
            readFact(depth);
            for (int i = 0; i < MAX_BYTES && tape.fault == 0; i++) {
                if (tape.passWord("and")) {
                    readFact(depth);
                    write(Rule.AND);
                } else if (tape.passWord("or")) {
                    if (or) {
                        write(Rule.OR);
                    }
                    or = true;
                    readFact(depth);
                } else {
                    break;
                }
            }
            if (or) {
                write(Rule.OR);
            }
        }

        private void readFact(int depth) {
            if (tape.fault != 0) {
                return;
            }
            int sign = tape.peek();
            int start = tape.at;
            boolean not = tape.passWord("not");
            if (!not && sign != '[') {
                readSum();
                int code = readSign();
                readSum();
                write(code);
                return;
            }
            if (depth >= MAX_DEPTH) {
                tape.fail(start, Tape.TOO_DEEP);
                return;
            }
            if (not) {
                readFact(depth + 1);
                write(Rule.NOT);
                return;
            }
            tape.at = start + 1;
            readTest(depth + 1);
            if (!tape.passSign(']')) {
                tape.fail(tape.at, Tape.NOT_HERE);
            }
        }

        private int readSign() {
            int sign = tape.peek();
            int start = tape.at;
            if (sign != '<' && sign != '=' && sign != '>') {
                tape.fail(start, Tape.NOT_HERE);
                return Rule.SAME;
            }
            countAt(start);
            tape.at = start + 1;
            if (sign == '=') {
                return Rule.SAME;
            }
            boolean same = tape.at < tape.length && tape.at < MAX_BYTES && tape.bytes[tape.at] == '=';
            if (same) {
                tape.at++;
            }
            if (sign == '<') {
                return same ? Rule.AT_MOST : Rule.BELOW;
            }
            return same ? Rule.AT_LEAST : Rule.ABOVE;
        }

        /** One more VALUE or FACT made of a SIGN. */
        private void countAt(int start) {
            values++;
            if (values > MAX_VALUES) {
                tape.fail(start, Tape.TOO_MANY_VALUES);
            }
        }

        /** A + or - is written when the TERM behind it is whole, as * and / bind closer. */
        private void readSum() {
            int waiting = 0;
            readValue();
            for (int i = 0; i < MAX_BYTES && tape.fault == 0; i++) {
                int sign = tape.peek();
                if (sign != '+' && sign != '-' && sign != '*' && sign != '/') {
                    break;
                }
                tape.at++;
                if (sign == '+' || sign == '-') {
                    if (waiting != 0) {
                        write(waiting);
                    }
                    waiting = sign == '+' ? Rule.PLUS : Rule.MINUS;
                    readValue();
                } else {
                    readValue();
                    write(sign == '*' ? Rule.TIMES : Rule.BY);
                }
            }
            if (waiting != 0) {
                write(waiting);
            }
        }

        private void readValue() {
            if (tape.fault != 0) {
                return;
            }
            int sign = tape.peek();
            int start = tape.at;
            int code;
            if (sign >= '0' && sign <= '9') {
                code = tape.passNumber(0, Rule.WORD - 1, NONE);
            } else {
                int word = tape.passOneOf(Laws.WORD_ROW);
                if (word == NONE) {
                    tape.fail(start, Tape.NOT_HERE);
                }
                code = Rule.WORD + word;
            }
            countAt(start);
            write(code);
        }
    }

    /** The ROADS as they are, or as a tale has made them; the RULE IN FORCE goes along, as each DRIVE asks it. */
    private static final class Roads {
        /** One more than a NET has, for the NEW ROAD. */
        static final int ROOM = MAX_ROADS + 1;

        final int[] one = new int[ROOM];
        final int[] other = new int[ROOM];
        final int[] days = new int[ROOM];
        final int[] last = new int[ROOM];
        final int[] runs = new int[ROOM];
        int places;
        int size;
        int all;
        int force = NONE;

        void clear() {
            places = 0;
            size = 0;
            all = 0;
        }

        /** What is no PLACE doesn't come in, as PLACES are indexes later on. */
        void add(int from, int to, int roadDays, int roadLast) {
            if (size < ROOM && hasPlace(from) && hasPlace(to)) {
                one[size] = from;
                other[size] = to;
                days[size] = roadDays;
                last[size] = roadLast;
                runs[size] = 0;
                size++;
            }
        }

        void copy(Roads from) {
            System.arraycopy(from.one, 0, one, 0, ROOM);
            System.arraycopy(from.other, 0, other, 0, ROOM);
            System.arraycopy(from.days, 0, days, 0, ROOM);
            places = from.places;
            size = from.size;
            force = from.force;
            copyTale(from);
        }

        /** Copies what DRIVES change, where the ROADS are the same ones. */
        void copyTale(Roads from) {
            System.arraycopy(from.last, 0, last, 0, ROOM);
            System.arraycopy(from.runs, 0, runs, 0, ROOM);
            all = from.all;
        }

        boolean hasPlace(int place) {
            return place >= 0 && place < places && place < MAX_PLACES;
        }

        boolean hasRoad(int road) {
            return road >= 0 && road < size && road < ROOM;
        }

        /** The PLACE at the other end of a ROAD, or NONE if it doesn't touch this one. */
        int across(int road, int place) {
            if (!hasRoad(road)) {
                return NONE;
            }
            if (one[road] == place) {
                return other[road];
            }
            return other[road] == place ? one[road] : NONE;
        }

        /** One more DRIVE was on a ROAD. */
        void note(int road, int newLast) {
            if (hasRoad(road)) {
                last[road] = newLast;
                runs[road]++;
                all++;
            }
        }

        int countUnused() {
            int n = 0;
            for (int road = 0; road < size && road < ROOM; road++) {
                if (last[road] == 0) {
                    n++;
                }
            }
            return n;
        }
    }

    /** All but the TAPE and the RULES: what an IMAGE keeps. */
    private static final class State {
        final Roads roads = new Roads();
        final int[] stands = new int[MAX_CARTERS];
        final int[] carries = new int[MAX_CARTERS];
        final int[] day = new int[MAX_CARTERS];
        final int[] kind = new int[MAX_LOADS];
        final int[] lies = new int[MAX_LOADS];
        final int[] goal = new int[MAX_LOADS];
        final int[] worth = new int[MAX_LOADS];
        /** LAST of each ROAD as FOUND, or NONE. */
        final int[] seen = new int[MAX_ROADS];
        int carters;
        int loads;
        int x;

        void clear() {
            roads.clear();
            Arrays.fill(seen, NONE);
            carters = 0;
            loads = 0;
        }

        void copy(State from) {
            roads.copy(from.roads);
            System.arraycopy(from.stands, 0, stands, 0, MAX_CARTERS);
            System.arraycopy(from.carries, 0, carries, 0, MAX_CARTERS);
            System.arraycopy(from.day, 0, day, 0, MAX_CARTERS);
            System.arraycopy(from.kind, 0, kind, 0, MAX_LOADS);
            System.arraycopy(from.lies, 0, lies, 0, MAX_LOADS);
            System.arraycopy(from.goal, 0, goal, 0, MAX_LOADS);
            System.arraycopy(from.worth, 0, worth, 0, MAX_LOADS);
            System.arraycopy(from.seen, 0, seen, 0, MAX_ROADS);
            carters = from.carters;
            loads = from.loads;
            x = from.x;
        }

        void addCarter(int place) {
            if (carters < MAX_CARTERS && roads.hasPlace(place)) {
                stands[carters] = place;
                carries[carters] = NONE;
                day[carters] = 0;
                carters++;
            }
        }

        void addLoad(int loadKind, int from, int to, int loadWorth) {
            if (loads < MAX_LOADS && roads.hasPlace(from) && roads.hasPlace(to)) {
                kind[loads] = loadKind;
                lies[loads] = from;
                goal[loads] = to;
                worth[loads] = loadWorth;
                loads++;
            }
        }

        boolean hasNet() {
            return roads.places > 0;
        }

        boolean hasCarter(int carter) {
            return carter >= 0 && carter < carters && carter < MAX_CARTERS;
        }

        boolean hasLoad(int load) {
            return load >= 0 && load < loads && load < MAX_LOADS;
        }

        int kindCarried(int carter) {
            return hasCarter(carter) && hasLoad(carries[carter]) ? kind[carries[carter]] : 0;
        }

        boolean isThere(int load) {
            return hasLoad(load) && lies[load] == goal[load];
        }

        /** Whether a LOAD is not THERE and on no cart. */
        boolean waits(int load) {
            return hasLoad(load) && lies[load] != NONE && lies[load] != goal[load];
        }

        int countThere() {
            int n = 0;
            for (int load = 0; load < loads; load++) {
                if (isThere(load)) {
                    n++;
                }
            }
            return n;
        }

        int countSeen() {
            int n = 0;
            for (int road = 0; road < roads.size && road < MAX_ROADS; road++) {
                if (seen[road] != NONE) {
                    n++;
                }
            }
            return n;
        }

        /** Whether these ROADS have each LAST that was FOUND. */
        boolean agrees(Roads tale) {
            for (int road = 0; road < roads.size && road < MAX_ROADS; road++) {
                if (seen[road] != NONE && seen[road] != tale.last[road]) {
                    return false;
                }
            }
            return true;
        }
    }

    /** The RULES, and what the LAWS say of a DRIVE. */
    private static final class Laws {
        /** The WORDS of a DRIVE, in the order of their numbers below. */
        static final String WORD_ROW = "road days last kind from to runs all day ";
        static final int ROAD = 0;
        static final int DAYS = 1;
        static final int LAST = 2;
        static final int KIND = 3;
        static final int FROM = 4;
        static final int TO = 5;
        static final int RUNS = 6;
        static final int ALL = 7;
        static final int DAY = 8;

        final Rule[] rules = new Rule[MAX_RULES];
        int size;
        private final long[] words = new long[Rule.WORDS];
        private final long[] stack = new long[RuleReader.MAX_VALUES];

        /** The number of the new RULE. */
        int add(Rule rule) {
            if (size >= MAX_RULES) {
                return NONE;
            }
            rules[size] = rule;
            size++;
            return size - 1;
        }

        /** The first LAW that a DRIVE breaks, or 0. */
        int broken(Roads roads, int road, int from, int kind, int day) {
            int to = roads.across(road, from);
            if (to == NONE) {
                return 1;
            }
            int last = roads.last[road];
            if (kind != 0 && last != 0 && last != kind) {
                return 2;
            }
            Rule rule = inForce(roads);
            if (rule == null || rule.bars.length == 0) {
                return 0;
            }
            tell(roads, road, from, to, kind, day);
            return holds(rule.bars) ? 3 : 0;
        }

        /** LAST behind a DRIVE that breaks no LAW; the ROADS are as ahead of it. */
        int lastAfter(Roads roads, int road, int from, int kind, int day) {
            if (kind != 0 || !roads.hasRoad(road)) {
                return kind;
            }
            Rule rule = inForce(roads);
            if (rule == null) {
                return 0;
            }
            tell(roads, road, from, roads.across(road, from), kind, day);
            return holds(rule.wipes) ? 0 : roads.last[road];
        }

        private Rule inForce(Roads roads) {
            return roads.force >= 0 && roads.force < size ? rules[roads.force] : null;
        }

        private void tell(Roads roads, int road, int from, int to, int kind, int day) {
            words[ROAD] = road;
            words[DAYS] = roads.days[road];
            words[LAST] = roads.last[road];
            words[KIND] = kind;
            words[FROM] = from;
            words[TO] = to;
            words[RUNS] = roads.runs[road];
            words[ALL] = roads.all;
            words[DAY] = day;
        }

        /** Whether one of the TESTS holds for the DRIVE that was told. */
        private boolean holds(int[] codes) {
            int top = 0;
            for (int i = 0; i < codes.length; i++) {
                int code = codes[i];
                if (code < Rule.PLUS) {
                    if (top < stack.length && code >= 0) {
                        stack[top] = code < Rule.WORD ? code : words[code - Rule.WORD];
                        top++;
                    }
                } else if (code == Rule.ENOUGH) {
                    if (top > 0 && stack[top - 1] != 0) {
                        return true;
                    }
                    top = 0;
                } else if (code == Rule.NOT) {
                    if (top > 0) {
                        stack[top - 1] = 1 - stack[top - 1];
                    }
                } else if (top > 1) {
                    top--;
                    stack[top - 1] = workOut(code, stack[top - 1], stack[top]);
                }
            }
            return false;
        }

        private static long workOut(int code, long left, long right) {
            switch (code) {
                case Rule.PLUS: return left + right;
                case Rule.MINUS: return left - right;
                case Rule.TIMES: return left * right;
                case Rule.BY: return right == 0 ? 0 : left / right;
                case Rule.BELOW: return left < right ? 1 : 0;
                case Rule.AT_MOST: return left <= right ? 1 : 0;
                case Rule.SAME: return left == right ? 1 : 0;
                case Rule.AT_LEAST: return left >= right ? 1 : 0;
                case Rule.ABOVE: return left > right ? 1 : 0;
                case Rule.AND: return left & right;
                case Rule.OR: return left | right;
                default: return 0;
            }
        }
    }

    /** SOONEST and all that goes by it. */
    private static final class Finder {
        /** What a ROAD that must be wiped costs beside its DAYS; no way has so many DAYS. */
        static final int WIPING = 1000;
        private static final int FAR = 1000000;

        private final Laws laws;
        /** Whether each ROAD may be driven from its first PLACE, and from its second. */
        private final boolean[] fromOne = new boolean[Roads.ROOM];
        private final boolean[] fromOther = new boolean[Roads.ROOM];
        private final int[] cost = new int[Roads.ROOM];
        /** The least cost from each PLACE to the end asked for. */
        private final int[] least = new int[MAX_PLACES];
        private final Roads tale = new Roads();
        int newOne;
        int newOther;
        int newStuck;
        int weeksGone;
        int weeksDays;
        private int x;

        Finder(Laws laws) {
            this.laws = laws;
        }

        /** Looks which DRIVES with a KIND the LAWS allow now. */
        void look(Roads roads, int kind) {
            for (int road = 0; road < roads.size && road < Roads.ROOM; road++) {
                fromOne[road] = laws.broken(roads, road, roads.one[road], kind, 0) == 0;
                fromOther[road] = laws.broken(roads, road, roads.other[road], kind, 0) == 0;
                cost[road] = roads.days[road];
            }
        }

        /** As look, but any ROAD may be wiped first, and no bar is asked. */
        void lookAsIfWiped(Roads roads, int kind) {
            for (int road = 0; road < roads.size && road < Roads.ROOM; road++) {
                boolean fits = roads.last[road] == 0 || roads.last[road] == kind;
                fromOne[road] = true;
                fromOther[road] = true;
                cost[road] = fits ? roads.days[road] : WIPING + roads.days[road];
            }
        }

        /** Measures from each PLACE to the end, by what was looked at. */
        void measure(Roads roads, int to) {
            Arrays.fill(least, FAR);
            if (!roads.hasPlace(to)) {
                return;
            }
            least[to] = 0;
            boolean changed = true;
            for (int pass = 0; pass < MAX_PLACES && changed; pass++) {
                changed = false;
                for (int road = 0; road < roads.size && road < Roads.ROOM; road++) {
                    int one = roads.one[road];
                    int other = roads.other[road];
                    if (fromOne[road] && least[other] + cost[road] < least[one]) {
                        least[one] = least[other] + cost[road];
                        changed = true;
                    }
                    if (fromOther[road] && least[one] + cost[road] < least[other]) {
                        least[other] = least[one] + cost[road];
                        changed = true;
                    }
                }
            }
        }

        int costFrom(int place) {
            return place < 0 || place >= MAX_PLACES || least[place] >= FAR ? CANNOT : least[place];
        }

        /** The least ROAD by which it is still soonest, or NONE. */
        private int nextRoad(Roads roads, int place) {
            for (int road = 0; road < roads.size && road < Roads.ROOM; road++) {
                int to = roads.across(road, place);
                if (to == NONE) {
                    continue;
                }
                boolean open = roads.one[road] == place ? fromOne[road] : fromOther[road];
                if (open && least[to] + cost[road] == least[place]) {
                    return road;
                }
            }
            return NONE;
        }

        int roadOfWay(Roads roads, int from, int to, int k) {
            if (costFrom(from) == CANNOT) {
                return CANNOT;
            }
            int place = from;
            for (int i = 0; i < MAX_PLACES && place != to; i++) {
                int road = nextRoad(roads, place);
                if (road == NONE) {
                    return CANNOT;
                }
                if (i == k) {
                    return road;
                }
                place = roads.across(road, place);
            }
            return CANNOT;
        }

        /** The PLACES to which one can come by what was looked at, as bits. */
        int placesFrom(Roads roads, int from) {
            int bits = 1 << from;
            for (int pass = 0; pass < MAX_PLACES; pass++) {
                for (int road = 0; road < roads.size && road < Roads.ROOM; road++) {
                    int one = 1 << roads.one[road];
                    int other = 1 << roads.other[road];
                    if (fromOne[road] && (bits & one) != 0) {
                        bits |= other;
                    }
                    if (fromOther[road] && (bits & other) != 0) {
                        bits |= one;
                    }
                }
            }
            return bits;
        }

        /** One load goes in a tale, if it can: its DAYS, or CANNOT and the tale stays. */
        int go(Roads roads, int kind, int from, int to) {
            look(roads, kind);
            measure(roads, to);
            int days = costFrom(from);
            if (days == CANNOT) {
                return CANNOT;
            }
            int place = from;
            for (int i = 0; i < MAX_PLACES && place != to; i++) {
                int road = nextRoad(roads, place);
                if (road == NONE) {
                    break;
                }
                place = roads.across(road, place);
                roads.note(road, kind);
            }
            return days;
        }

        /** The LOADS that would be STUCK if the ROADS were these, as bits. */
        int stuckIn(State state, Roads roads) {
            int bits = 0;
            for (int load = 0; load < state.loads; load++) {
                if (!state.waits(load)) {
                    continue;
                }
                look(roads, state.kind[load]);
                measure(roads, state.goal[load]);
                if (costFrom(state.lies[load]) == CANNOT) {
                    bits |= 1 << load;
                }
            }
            return bits;
        }

        void findNewRoad(State state, int days) {
            newOne = NONE;
            newOther = NONE;
            newStuck = MAX_LOADS + 1;
            for (int one = 0; one < state.roads.places; one++) {
                for (int other = one + 1; other < state.roads.places; other++) {
                    tale.copy(state.roads);
                    tale.add(one, other, days, 0);
                    int n = Integer.bitCount(stuckIn(state, tale));
                    if (n < newStuck) {
                        newOne = one;
                        newOther = other;
                        newStuck = n;
                    }
                }
            }
        }

        private int draw() {
            x = (int) ((x * 1103515245L + 12345L) & 2147483647L);
            return x / 65536;
        }

        void runWeeks(State state, int m, int n) {
            weeksGone = 0;
            weeksDays = 0;
            x = state.x;
            int places = state.roads.places;
            if (places < 1) {
                return;
            }
            tale.copy(state.roads);
            for (int week = 0; week < m; week++) {
                tale.copyTale(state.roads);
                for (int cart = 0; cart < n; cart++) {
                    int kind = 1 + draw() % MAX_KIND;
                    int from = draw() % places;
                    int to = draw() % places;
                    int days = from == to ? CANNOT : go(tale, kind, from, to);
                    if (days != CANNOT) {
                        weeksGone++;
                        weeksDays += days;
                    }
                }
            }
        }
    }

    /** PLAN of one CARTER for one LOAD. */
    private static final class Planner {
        private static final int MOST = 1000;
        private static final int PLACE_BITS = 4;
        private static final int LAST_BITS = 3;
        /** More than twice the SITUATIONS, and a power of two. */
        private static final int SLOTS = 2048;

        private final Laws laws;
        /** Each SITUATION in one number: the PLACE, whether he has the LOAD, LAST of all ROADS. */
        private final long[] situations = new long[MOST];
        private final int[] days = new int[MOST];
        /** For each slot one more than the number of its SITUATION; 0: free. */
        private final int[] slots = new int[SLOTS];
        private final Roads tale = new Roads();
        private int size;
        private int mostDays;
        private boolean tooMany;
        private int kind;
        private int lies;
        private int firstDay;

        Planner(Laws laws) {
            this.laws = laws;
        }

        /**
         * As each DRIVE takes a day at least, nothing comes with the DAYS that are gone through just now:
         * so the row is gone through once for each number of DAYS.
         */
        int fewestDays(State state, int carter, int load) {
            Arrays.fill(slots, 0);
            size = 0;
            mostDays = 0;
            tooMany = false;
            kind = state.kind[load];
            lies = state.lies[load];
            firstDay = state.day[carter];
            tale.copy(state.roads);
            come(state.stands[carter], false, 0);
            for (int day = 0; day <= mostDays && day <= MOST * MAX_DAYS; day++) {
                for (int i = 0; i < size && i < MOST; i++) {
                    if (days[i] != day) {
                        continue;
                    }
                    if (hasLoad(i) && placeOf(i) == state.goal[load]) {
                        return day;
                    }
                    goThrough(i);
                    if (tooMany) {
                        return UNKNOWN;
                    }
                }
            }
            return CANNOT;
        }

        private int placeOf(int i) {
            return (int) (situations[i] & ((1 << PLACE_BITS) - 1));
        }

        private boolean hasLoad(int i) {
            return ((situations[i] >> PLACE_BITS) & 1) != 0;
        }

        /** Tries each ROAD from a SITUATION; the tale has its LASTs, and all others as now. */
        private void goThrough(int i) {
            long lasts = situations[i] >> (PLACE_BITS + 1);
            for (int road = 0; road < tale.size && road < MAX_ROADS; road++) {
                tale.last[road] = (int) ((lasts >> (LAST_BITS * road)) & MAX_KIND);
            }
            int from = placeOf(i);
            boolean has = hasLoad(i);
            int carried = has ? kind : 0;
            int day = firstDay + days[i];
            for (int road = 0; road < tale.size && road < MAX_ROADS; road++) {
                if (laws.broken(tale, road, from, carried, day) != 0) {
                    continue;
                }
                int before = tale.last[road];
                tale.last[road] = laws.lastAfter(tale, road, from, carried, day);
                come(tale.across(road, from), has, days[i] + tale.days[road]);
                tale.last[road] = before;
            }
        }

        private void come(int place, boolean has, int newDays) {
            long situation = 0;
            for (int road = tale.size - 1; road >= 0; road--) {
                situation = (situation << LAST_BITS) | tale.last[road];
            }
            situation = (situation << 1) | (has || place == lies ? 1 : 0);
            situation = (situation << PLACE_BITS) | place;
            int slot = slotOf(situation);
            int i = slots[slot] - 1;
            if (i >= 0 && i < MOST) {
                days[i] = Math.min(days[i], newDays);
            } else if (size >= MOST) {
                tooMany = true;
            } else {
                situations[size] = situation;
                days[size] = newDays;
                mostDays = Math.max(mostDays, newDays);
                size++;
                slots[slot] = size;
            }
        }

        /** The slot of a SITUATION, or the free one where it would stand. */
        private int slotOf(long situation) {
            long mixed = situation * 0x9E3779B97F4A7C15L;
            int slot = (int) (mixed >>> 40) & (SLOTS - 1);
            for (int tries = 0; tries < SLOTS; tries++) {
                int i = slots[slot] - 1;
                if (i < 0 || i >= MOST || situations[i] == situation) {
                    return slot;
                }
                slot = (slot + 1) & (SLOTS - 1);
            }
            return slot;
        }
    }

    /** Rows of LOADS that go one behind the other. */
    private static final class Orders {
        static final int LONGEST = 6;
        static final int LONGEST_ROW = 3;

        private final Finder finder;
        /** The LOADS that may go, the least first. */
        private final int[] waiting = new int[MAX_LOADS];
        private int size;
        /** The ROADS behind so many LOADS of the row. */
        private final Roads[] tales = new Roads[LONGEST + 1];
        private final int[] row = new int[LONGEST];
        private final int[] best = new int[LONGEST];
        int bestWorth;
        int bestGone;
        private final int[] first = new int[LONGEST_ROW];
        int rows;
        int inAll;

        Orders(Finder finder) {
            this.finder = finder;
            for (int i = 0; i <= LONGEST; i++) {
                tales[i] = new Roads();
            }
        }

        private void begin(State state, int most) {
            size = 0;
            for (int load = 0; load < state.loads && size < most; load++) {
                if (state.waits(load)) {
                    waiting[size] = load;
                    size++;
                }
            }
            for (int i = 0; i <= LONGEST; i++) {
                tales[i].copy(state.roads);
            }
        }

        /** BEST ORDER, with one ROAD's LAST as if it were 0 (NONE: as they are). */
        void findBest(State state, int wipedRoad) {
            begin(state, LONGEST);
            if (tales[0].hasRoad(wipedRoad)) {
                tales[0].last[wipedRoad] = 0;
            }
            bestWorth = NONE;
            bestGone = 0;
            tryOrders(state, 0, 0, 0, 0);
        }

        int bestAt(int place) {
            return place >= 0 && place < size && place < LONGEST ? best[place] : CANNOT;
        }

        private void tryOrders(State state, int depth, int used, int worth, int gone) {
            if (depth >= size || depth >= LONGEST) {
                if (worth > bestWorth) {
                    bestWorth = worth;
                    bestGone = gone;
                    System.arraycopy(row, 0, best, 0, LONGEST);
                }
                return;
            }
            if (worth + worthLeft(state, used) <= bestWorth) {
                return;
            }
            for (int i = 0; i < size; i++) {
                if ((used >> i & 1) != 0) {
                    continue;
                }
                int load = waiting[i];
                row[depth] = load;
                Roads tale = tales[depth + 1];
                tale.copyTale(tales[depth]);
                boolean goes = finder.go(tale, state.kind[load], state.lies[load], state.goal[load]) != CANNOT;
                int more = goes ? state.worth[load] : 0;
                tryOrders(state, depth + 1, used | 1 << i, worth + more, goes ? gone + 1 : gone);
            }
        }

        private int worthLeft(State state, int used) {
            int sum = 0;
            for (int i = 0; i < size; i++) {
                if ((used >> i & 1) == 0) {
                    sum += state.worth[waiting[i]];
                }
            }
            return sum;
        }

        /** WHO DROVE, by rows of that length. */
        void findRows(State state, int length) {
            begin(state, MAX_LOADS);
            rows = 0;
            inAll = 0;
            tryRows(state, 0, length, 0);
        }

        int firstAt(int place) {
            return rows > 0 && place >= 0 && place < LONGEST_ROW ? first[place] : CANNOT;
        }

        private void tryRows(State state, int depth, int length, int used) {
            if (depth >= length || depth >= LONGEST_ROW) {
                if (state.agrees(tales[depth])) {
                    noteRow(used);
                }
                return;
            }
            for (int i = 0; i < size; i++) {
                int load = waiting[i];
                if ((used >> load & 1) != 0) {
                    continue;
                }
                Roads tale = tales[depth + 1];
                tale.copyTale(tales[depth]);
                if (finder.go(tale, state.kind[load], state.lies[load], state.goal[load]) != CANNOT) {
                    row[depth] = load;
                    tryRows(state, depth + 1, length, used | 1 << load);
                }
            }
        }

        private void noteRow(int loads) {
            if (rows == 0) {
                System.arraycopy(row, 0, first, 0, LONGEST_ROW);
                inAll = loads;
            }
            inAll &= loads;
            rows++;
        }
    }
}
