/**
 * Two lands that keep and cut things by a treaty; the document ../shared/DOC.md says what each call
 * must do. Words in capitals in the comments are that document's words.
 */
public final class CountTreaty {
    public static final int NONE = -1;

    private static final int LAST_DAY = 1999;
    private static final int YEAR = 360;
    private static final int LANDS = 2;
    private static final int SORTS = 4;
    private static final int MOST_SITES = 10;
    private static final int MOST_ROADS = 30;
    private static final int MOST_THINGS = 40;
    private static final int MOST_MOVES = 100;
    private static final int MOST_SEALS = 40;
    private static final int MOST_TEXTS = 10;
    private static final int MOST_BYTES = 300;
    private static final int MOST_CLAUSES = 16;
    private static final int MOST_TOLD = 200;
    private static final int MOST_VISITS = 100;
    private static final int MOST_PICTURES = 100;
    private static final int MOST_QUESTIONS = 50;
    private static final int MOST_ACTS = 512;
    private static final int MOST_CLOUDS = 60;
    private static final int MOST_WATCHED = 60;
    private static final int MOST_LENGTH = 200;
    private static final int MOST_WEIGHT = 500;
    private static final int MOST_CHANCE = 50;
    private static final int MOST_AHEAD = 30;
    private static final int MOST_IN_SET = 5;

    // where() answers these for what is no SITE
    private static final int ON_ROAD = 100;
    private static final int GONE = 101;
    private static final int NOT_MADE = 102;

    // classes of SITES; the ROAD's stands behind them
    private static final int PLANT = 1;
    private static final int SCRAP = 3;
    private static final int ROAD_CLASS = 4;

    // kinds of ACTS
    private static final int MADE = 0;
    private static final int MOVED = 1;
    private static final int STEPPED = 2;
    private static final int SAID = 3;
    private static final int VISITED = 4;
    private static final int ASKED = 5;
    private static final int ANSWERED = 6;

    // columns of the tables; those that a call answers by number stand in that call's order
    private static final int SORT_SHORTEST = 0;
    private static final int SORT_LONGEST = 1;
    private static final int SORT_LIGHTEST = 2;
    private static final int SORT_HEAVIEST = 3;
    private static final int SITE_LAND = 0;
    private static final int SITE_CLASS = 1;
    private static final int SITE_PORTAL = 2;
    private static final int SITE_COVERED = 3;
    private static final int SITE_CHANCE = 4;
    private static final int THING_SORT = 0;
    private static final int THING_LENGTH = 1;
    private static final int THING_WEIGHT = 2;
    private static final int THING_LAND = 3;
    private static final int THING_DAY = 4;
    private static final int THING_STEPS = 5;
    private static final int THING_MOVES = 6;
    private static final int THING_SITE = 7;
    private static final int THING_LAST_MOVE = 8;
    private static final int THING_LAST_STEP = 9;
    private static final int THING_GONE = 10;
    private static final int MOVE_THING = 0;
    private static final int MOVE_FROM = 1;
    private static final int MOVE_TO = 2;
    private static final int MOVE_DAY = 3;
    private static final int MOVE_COMING = 4;
    private static final int MOVE_AHEAD = 5;
    private static final int TOLD_THING = 0;
    private static final int TOLD_PLACE = 1;
    private static final int TOLD_FROM = 2;
    private static final int TOLD_DAY = 3;
    private static final int VISIT_VEILED = 4;
    private static final int VISIT_SEAL = 5;
    private static final int VISIT_DAY = 6;
    private static final int VISIT_LAND = 7;
    private static final int VISIT_SITE = 8;
    private static final int VISIT_SEALED = 9;
    private static final int QUESTION_LAND = 0;
    private static final int QUESTION_DAY = 1;
    private static final int QUESTION_ANSWERED = 2;
    private static final int ACT_KIND = 0;
    private static final int ACT_DAY = 1;
    private static final int ACT_LAND = 2;
    private static final int ACT_OF = 3;
    private static final int ACT_NUMBER = 4;
    // of SEALS, PICTURES, CLOUDS and WATCHED ones alike
    private static final int SPOT_SITE = 0;
    private static final int SPOT_DAY = 1;
    private static final int SPOT_NUMBER = 2;
    private static final int TEXT_FROM = 0;
    private static final int TEXT_KINDS = 1;
    private static final int TEXT_CLAUSE = 2;
    private static final int TEXT_END = 3;
    private static final int CLAUSE_KIND = 0;
    private static final int CLAUSE_A = 1;
    private static final int CLAUSE_B = 2;
    private static final int CLAUSE_C = 3;

    // TOKENS: the words stand in WORDS by their numbers, so that each one is found by its place there
    private static final String WORDS =
        "counts limit tell visits veil steps answer from to wait or and not sort length weight class land ";
    private static final int COUNTS = 0;
    private static final int LIMIT = 1;
    private static final int TELL = 2;
    private static final int VISITS = 3;
    private static final int VEIL = 4;
    private static final int STEPS = 5;
    private static final int ANSWER = 6;
    private static final int FROM = 7;
    private static final int TO = 8;
    private static final int WAIT = 9;
    private static final int OR = 10;
    private static final int AND = 11;
    private static final int NOT = 12;
    private static final int SORT = 13;
    private static final int LENGTH = 14;
    private static final int WEIGHT = 15;
    private static final int CLASS = 16;
    private static final int LAND = 17;
    private static final int LESS = 18;
    private static final int NOT_ABOVE = 19;
    private static final int ABOVE = 20;
    private static final int NOT_BELOW = 21;
    private static final int LIKE = 22;
    private static final int UNLIKE = 23;
    private static final int OPEN = 24;
    private static final int CLOSE = 25;
    private static final int STOP = 26;
    private static final int NUMBER = 27;
    private static final int END = 28;
    private static final int NO_TOKEN = 29;
    private static final int MOST_NUMBER = 9999;
    private static final int MOST_OPEN = 8;

    private static final int TOKEN_KIND = 0;
    private static final int TOKEN_PLACE = 1;
    private static final int TOKEN_NUMBER = 2;

    // codes of conditions: a NUMBER stands for itself, the others lie beyond all NUMBERS
    private static final int CODE_FIELD = 20000;
    private static final int CODE_WORD = 30000;

    private static final long ALL_NUMBERS = (1L << (MOST_THINGS + 1)) - 1;

    private final State now;
    private final State kept;
    private final Reader reader;
    private final Knowing knowing;
    private final Judge judge;
    private final Shares shares;
    private final Search search;

    public CountTreaty() {
        now = new State();
        kept = new State();
        reader = new Reader();
        knowing = new Knowing();
        judge = new Judge();
        shares = new Shares();
        search = new Search();
    }

    public int site(int land, int klass, boolean portal, boolean covered) {
        if (!State.isLand(land) || klass < 0 || klass > SCRAP || now.sites.isFull()) {
            return NONE;
        }
        int site = now.sites.open(land);
        now.sites.put(site, SITE_CLASS, klass);
        now.sites.put(site, SITE_PORTAL, portal ? 1 : 0);
        now.sites.put(site, SITE_COVERED, covered ? 1 : 0);
        now.sites.put(site, SITE_CHANCE, 10);
        now.openWays(site);
        return site;
    }

    public int road(int a, int b, int days) {
        if (!now.sites.has(a) || !now.sites.has(b) || a == b || days < 1 || days > 60) {
            return NONE;
        }
        if (now.sites.at(a, SITE_LAND) != now.sites.at(b, SITE_LAND) || now.roads >= MOST_ROADS) {
            return NONE;
        }
        now.shortenWays(a, b, days);
        now.roads++;
        return now.roads - 1;
    }

    public int way(int a, int b) {
        return now.ways.at(a, b);
    }

    public boolean sort(int sort, int shortest, int longest, int lightest, int heaviest) {
        if (!State.isSort(sort) || now.things.count() > 0) {
            return false;
        }
        if (shortest < 1 || longest < shortest || longest > MOST_LENGTH) {
            return false;
        }
        if (lightest < 1 || heaviest < lightest || heaviest > MOST_WEIGHT) {
            return false;
        }
        now.sorts.put(sort, SORT_SHORTEST, shortest);
        now.sorts.put(sort, SORT_LONGEST, longest);
        now.sorts.put(sort, SORT_LIGHTEST, lightest);
        now.sorts.put(sort, SORT_HEAVIEST, heaviest);
        return true;
    }

    public boolean rules(int el, int ew, int seen) {
        if (el < 0 || el > 50 || ew < 0 || ew > 50 || seen < 1 || seen > MOST_LENGTH || now.things.count() > 0) {
            return false;
        }
        now.el = el;
        now.ew = ew;
        now.seen = seen;
        return true;
    }

    public int make(int site, int sort, int length, int weight) {
        if (!now.sites.has(site) || !State.isSort(sort) || now.things.isFull()) {
            return NONE;
        }
        if (length < 1 || length > MOST_LENGTH || weight < 1 || weight > MOST_WEIGHT) {
            return NONE;
        }
        if (now.clock > 0 && now.sites.at(site, SITE_CLASS) != PLANT) {
            return NONE;
        }
        int thing = now.things.open(sort);
        now.things.put(thing, THING_LENGTH, length);
        now.things.put(thing, THING_WEIGHT, weight);
        now.things.put(thing, THING_LAND, now.sites.at(site, SITE_LAND));
        now.things.put(thing, THING_DAY, now.clock);
        now.things.put(thing, THING_SITE, site);
        now.things.put(thing, THING_LAST_MOVE, NONE);
        now.things.put(thing, THING_LAST_STEP, NONE);
        now.things.put(thing, THING_GONE, NONE);
        now.addAct(MADE, now.sites.at(site, SITE_LAND), thing, thing);
        return thing;
    }

    public int move(int thing, int site) {
        if (!now.things.has(thing) || now.moves.isFull()) {
            return NONE;
        }
        int from = now.placeOn(thing, now.clock);
        int way = now.ways.at(from, site);
        if (way < 1 || now.clock + way > LAST_DAY) {
            return NONE;
        }
        int move = now.moves.open(thing);
        now.moves.put(move, MOVE_FROM, from);
        now.moves.put(move, MOVE_TO, site);
        now.moves.put(move, MOVE_DAY, now.clock);
        now.moves.put(move, MOVE_COMING, now.clock + way);
        now.moves.put(move, MOVE_AHEAD, now.things.at(thing, THING_LAST_MOVE));
        now.things.put(thing, THING_LAST_MOVE, move);
        now.things.put(thing, THING_MOVES, now.things.at(thing, THING_MOVES) + 1);
        now.addAct(MOVED, now.things.at(thing, THING_LAND), thing, move);
        return move;
    }

    public int step(int thing) {
        if (!now.things.has(thing)) {
            return NONE;
        }
        int place = now.placeOn(thing, now.clock);
        int ahead = now.things.at(thing, THING_LAST_STEP);
        if (now.sites.at(place, SITE_CLASS) != SCRAP || ahead == now.clock) {
            return NONE;
        }
        int steps = now.things.at(thing, THING_STEPS) + 1;
        now.things.put(thing, THING_STEPS, steps);
        now.things.put(thing, THING_LAST_STEP, now.clock);
        if (steps >= now.treaty.tells(3, now.clock)) {
            now.things.put(thing, THING_GONE, now.clock);
        }
        now.addAct(STEPPED, now.things.at(thing, THING_LAND), thing, ahead);
        return steps;
    }

    public int seal(int site) {
        if (!now.sites.has(site) || now.seals.isFull() || now.isSealed(site)) {
            return NONE;
        }
        return State.addSpot(now.seals, site, now.clock);
    }

    public int days(int n) {
        if (n < 1 || n > 400 || now.clock + n > LAST_DAY) {
            return NONE;
        }
        now.clock += n;
        return now.clock;
    }

    public int where(int thing, int day) {
        return now.things.has(thing) && State.isDay(day) ? now.placeOn(thing, day) : NONE;
    }

    public int thing(int thing, int what) {
        return what > THING_MOVES ? NONE : now.things.at(thing, what);
    }

    public int whole(int seal, int day) {
        if (!now.seals.has(seal) || !State.isDay(day) || day < now.seals.at(seal, SPOT_DAY)) {
            return NONE;
        }
        return now.isWhole(seal, day) ? 1 : 0;
    }

    public int feed(int a, int b, int c, int d, int e) {
        Tokens tokens = reader.tokens;
        if (tokens.tape.count() + 20 > MOST_BYTES) {
            return NONE;
        }
        tokens.addWord(a);
        tokens.addWord(b);
        tokens.addWord(c);
        tokens.addWord(d);
        tokens.addWord(e);
        return tokens.tape.count();
    }

    public int end(int n) {
        if (n < 0 || n > reader.tokens.tape.count()) {
            return NONE;
        }
        reader.tokens.tape.cut(n);
        return n;
    }

    public int text(int from) {
        if (from < now.clock || from > LAST_DAY || now.treaty.texts.isFull()) {
            return NONE;
        }
        boolean good = reader.read();
        reader.tokens.tape.cut(0);
        return good ? now.treaty.adopt(reader, from) : NONE;
    }

    public int fault(int what) {
        if (!reader.hasRead) {
            return NONE;
        }
        switch (what) {
            case 0: return reader.fault;
            case 1: return reader.faultPlace;
            default: return NONE;
        }
    }

    public int says(int day, int what) {
        return State.isDay(day) ? now.treaty.tells(what, day) : NONE;
    }

    public int counts(int thing, int site, int day) {
        if (!now.things.has(thing) || site != NONE && !now.sites.has(site) || !State.isDay(day)) {
            return NONE;
        }
        return now.isCounting(now.treaty.textFor(COUNTS, day), thing, site) ? 1 : 0;
    }

    public int counted(int land, int day) {
        return State.isLand(land) && State.isDay(day) ? now.numberCounting(land, day) : NONE;
    }

    public int tell(int thing, int site, int day) {
        if (!now.things.has(thing) || day < 0 || day > now.clock || now.tolds.isFull()) {
            return NONE;
        }
        int land = now.things.at(thing, THING_LAND);
        if (site != NONE && now.sites.at(site, SITE_LAND) != land) {
            return NONE;
        }
        int told = now.tolds.open(thing);
        now.tolds.put(told, TOLD_PLACE, site == NONE ? GONE : site);
        now.tolds.put(told, TOLD_FROM, day);
        now.tolds.put(told, TOLD_DAY, now.clock);
        now.addAct(SAID, land, thing, told);
        return told;
    }

    public int told(int thing, int day, int known) {
        if (!now.things.has(thing) || !State.isDay(day) || !State.isDay(known)) {
            return NONE;
        }
        knowing.hear(now, day, known);
        return knowing.placeTold(now, thing);
    }

    public int toldAt(int site, int sort, int day, int known) {
        if (!now.sites.has(site) || !State.isSort(sort) || !State.isDay(day) || !State.isDay(known)) {
            return NONE;
        }
        knowing.hear(now, day, known);
        return knowing.numberTold(now, site, sort);
    }

    public int visit(int land, int site) {
        if (!isAbroad(land, site) || now.clock == 0 || now.visits.isFull()) {
            return NONE;
        }
        int visit = now.visits.open(0);
        now.visits.put(visit, VISIT_DAY, now.clock);
        now.visits.put(visit, VISIT_LAND, land);
        now.visits.put(visit, VISIT_SITE, site);
        now.lookAround(visit, site, now.clock);
        now.lookAtSeal(visit, site, now.clock - 1);
        now.addAct(VISITED, land, site, visit);
        return visit;
    }

    private boolean isAbroad(int land, int site) {
        return State.isLand(land) && now.sites.has(site) && now.sites.at(site, SITE_LAND) != land;
    }

    public int saw(int visit, int what) {
        return what > VISIT_DAY ? NONE : now.visits.at(visit, what);
    }

    public int cloud(int site, int day) {
        if (!now.sites.has(site) || !State.isDay(day) || now.clouds.isFull()) {
            return NONE;
        }
        if (State.hasSpot(now.clouds, site, day)) {
            return NONE;
        }
        return State.addSpot(now.clouds, site, day) + 1;
    }

    public int picture(int site) {
        if (!now.sites.has(site) || now.clock == 0 || now.pictures.isFull()) {
            return NONE;
        }
        if (now.sites.at(site, SITE_COVERED) == 1 || State.hasSpot(now.clouds, site, now.clock)) {
            return NONE;
        }
        int number = now.numberLarge(site, now.clock - 1);
        int picture = State.addSpot(now.pictures, site, now.clock);
        now.pictures.put(picture, SPOT_NUMBER, number);
        return number;
    }

    public int possible(int site, int sort, int day, int known, boolean most) {
        if (!isKnowable(site, sort, day, known)) {
            return NONE;
        }
        knowing.walk(now, site, day, known);
        return most ? knowing.greatest(sort) : knowing.least(sort);
    }

    private boolean isKnowable(int site, int sort, int day, int known) {
        return now.sites.has(site) && State.isSort(sort) && day >= 0 && day <= known && known <= LAST_DAY;
    }

    public int doubted(int site, int sort, int day, int known) {
        if (!isKnowable(site, sort, day, known)) {
            return NONE;
        }
        knowing.hear(now, day, known);
        knowing.walk(now, site, day, known);
        return knowing.isPossible(sort, knowing.numberTold(now, site, sort)) ? 0 : 1;
    }

    public int doubt(int day, int known, int i) {
        if (!isKnowable(0, 0, day, known) || i < 0) {
            return NONE;
        }
        knowing.hear(now, day, known);
        int met = 0;
        for (int site = 0; site < now.sites.count(); site++) {
            knowing.walk(now, site, day, known);
            for (int sort = 0; sort < SORTS; sort++) {
                if (!knowing.isPossible(sort, knowing.numberTold(now, site, sort))) {
                    if (met == i) {
                        return 4 * site + sort;
                    }
                    met++;
                }
            }
        }
        return NONE;
    }

    public int ask(int land, int site) {
        if (!isAbroad(land, site) || now.questions.isFull()) {
            return NONE;
        }
        int question = now.questions.open(land);
        now.questions.put(question, QUESTION_DAY, now.clock);
        now.questions.put(question, QUESTION_ANSWERED, NONE);
        now.addAct(ASKED, land, site, question);
        return question;
    }

    public boolean answer(int question) {
        if (!now.questions.has(question) || now.questions.at(question, QUESTION_ANSWERED) != NONE) {
            return false;
        }
        now.questions.put(question, QUESTION_ANSWERED, now.clock);
        now.addAct(ANSWERED, 1 - now.questions.at(question, QUESTION_LAND), question, question);
        return true;
    }

    public int act(int i, int what) {
        return what > ACT_OF ? NONE : now.acts.at(i, what);
    }

    public int judged(int i, int known) {
        if (!now.acts.has(i) || known < now.acts.at(i, ACT_DAY) || known > LAST_DAY) {
            return NONE;
        }
        judge.begin();
        return judge.judge(now, i, known);
    }

    public int fails(int v, int known, int i) {
        if (v < 1 || v > 7 || !State.isDay(known) || i < 0) {
            return NONE;
        }
        judge.begin();
        int met = 0;
        for (int act = 0; act < now.acts.count() && now.acts.at(act, ACT_DAY) <= known; act++) {
            if (judge.judge(now, act, known) == v) {
                if (met == i) {
                    return act;
                }
                met++;
            }
        }
        return NONE;
    }

    public boolean chance(int site, int v) {
        if (!now.sites.has(site) || v < 1 || v > MOST_CHANCE) {
            return false;
        }
        now.sites.put(site, SITE_CHANCE, v);
        return true;
    }

    public long value(int set, int q, boolean lower) {
        if (!shares.take(now, set, q)) {
            return NONE;
        }
        return lower ? shares.lower : shares.upper;
    }

    public long share(int set, int q, int site, boolean lower) {
        if (!shares.take(now, set, q) || !now.sites.has(site) || (set >> site & 1) == 0) {
            return NONE;
        }
        shares.divide(now.sites.at(site, SITE_CHANCE));
        return lower ? shares.lower : shares.upper;
    }

    public int proof(int set, int q, int a, int b, int c, int d, int e) {
        if (!shares.take(now, set, q)) {
            return NONE;
        }
        shares.weigh(0, a);
        shares.weigh(1, b);
        shares.weigh(2, c);
        shares.weigh(3, d);
        shares.weigh(4, e);
        return shares.prove();
    }

    public int watch(int site, int day) {
        if (!now.sites.has(site) || day < now.clock || day > LAST_DAY || now.watches.isFull()) {
            return NONE;
        }
        if (State.hasSpot(now.watches, site, day)) {
            return NONE;
        }
        return State.addSpot(now.watches, site, day) + 1;
    }

    public int unseen(int land, int n) {
        if (!State.isLand(land) || n < 1 || n > MOST_AHEAD) {
            return NONE;
        }
        return search.find(now, land, n, NONE);
    }

    public int trick(int land, int n, int i, int what) {
        if (!State.isLand(land) || n < 1 || n > MOST_AHEAD || i < 0) {
            return NONE;
        }
        if (search.find(now, land, n, i) <= i) {
            return NONE;
        }
        switch (what) {
            case 0: return search.thing;
            case 1: return search.site;
            case 2: return search.day;
            default: return NONE;
        }
    }

    public int image() {
        kept.copy(now);
        return now.clock;
    }

    public int back() {
        now.copy(kept);
        return now.clock;
    }

    public int about(int what) {
        switch (what) {
            case 0: return now.clock;
            case 1: return now.sites.count();
            case 2: return now.roads;
            case 3: return now.things.count();
            case 4: return now.moves.count();
            case 5: return now.seals.count();
            case 6: return now.treaty.texts.count();
            case 7: return now.tolds.count();
            case 8: return now.visits.count();
            case 9: return now.pictures.count();
            case 10: return now.questions.count();
            case 11: return now.acts.count();
            case 12: return reader.tokens.tape.count();
            case 13: return now.clouds.count();
            case 14: return now.watches.count();
            case 15: return now.seen;
            default: return what < 20 ? NONE : now.sites.at(what - 20, SITE_CHANCE);
        }
    }

    /** A table of numbers, made once; each index is tested here alone: what lies outside reads NONE. */
    static final class Rows {
        private final int width;
        private final int[] cells;
        private int count;

        Rows(int most, int width) {
            this.width = Math.max(1, width);
            this.cells = new int[Math.max(1, most * this.width)];
            this.count = 0;
        }

        int count() {
            return count;
        }

        boolean has(int row) {
            return row >= 0 && row < count;
        }

        boolean isFull() {
            return (count + 1) * width > cells.length;
        }

        int at(int row, int column) {
            if (row < 0 || row >= count || column < 0 || column >= width) {
                return NONE;
            }
            int cell = row * width + column;
            return cell >= 0 && cell < cells.length ? cells[cell] : NONE;
        }

        void put(int row, int column, int number) {
            if (row < 0 || row >= count || column < 0 || column >= width) {
                return;
            }
            int cell = row * width + column;
            if (cell >= 0 && cell < cells.length) {
                cells[cell] = number;
            }
        }

        /** A new row of noughts behind its first number: the row's number; NONE if there is no room. */
        int open(int first) {
            int cell = count * width;
            if (cell < 0 || cell + width > cells.length) {
                return NONE;
            }
            for (int column = 1; column < width; column++) {
                cells[cell + column] = 0;
            }
            cells[cell] = first;
            count++;
            return count - 1;
        }

        void cut(int rows) {
            count = Math.max(0, Math.min(rows, count));
        }

        void copy(Rows other) {
            if (other == null || other.cells.length != cells.length) {
                return;
            }
            System.arraycopy(other.cells, 0, cells, 0, cells.length);
            count = other.count;
        }
    }

    /** All that THE IMAGE keeps. */
    static final class State {
        int clock;
        int el;
        int ew;
        int seen;
        int roads;
        final Rows sorts;
        final Rows sites;
        final Rows ways;
        final Rows things;
        final Rows moves;
        final Rows seals;
        final Treaty treaty;
        final Rows tolds;
        final Rows visits;
        final Rows pictures;
        final Rows questions;
        final Rows acts;
        final Rows clouds;
        final Rows watches;

        State() {
            clock = 0;
            el = 2;
            ew = 5;
            seen = 40;
            roads = 0;
            sorts = new Rows(SORTS, 4);
            sites = new Rows(MOST_SITES, 5);
            ways = new Rows(MOST_SITES, MOST_SITES);
            things = new Rows(MOST_THINGS, 11);
            moves = new Rows(MOST_MOVES, 6);
            seals = new Rows(MOST_SEALS, 2);
            treaty = new Treaty();
            tolds = new Rows(MOST_TOLD, 4);
            visits = new Rows(MOST_VISITS, 10);
            pictures = new Rows(MOST_PICTURES, 3);
            questions = new Rows(MOST_QUESTIONS, 3);
            acts = new Rows(MOST_ACTS, 5);
            clouds = new Rows(MOST_CLOUDS, 2);
            watches = new Rows(MOST_WATCHED, 2);
            for (int sort = 0; sort < SORTS; sort++) {
                sorts.open(1);
                sorts.put(sort, SORT_LONGEST, MOST_LENGTH);
                sorts.put(sort, SORT_LIGHTEST, 1);
                sorts.put(sort, SORT_HEAVIEST, MOST_WEIGHT);
            }
        }

        static boolean isDay(int day) {
            return day >= 0 && day <= LAST_DAY;
        }

        static boolean isLand(int land) {
            return land >= 0 && land < LANDS;
        }

        static boolean isSort(int sort) {
            return sort >= 0 && sort < SORTS;
        }

        static int addSpot(Rows spots, int site, int day) {
            int spot = spots.open(site);
            spots.put(spot, SPOT_DAY, day);
            return spot;
        }

        static boolean hasSpot(Rows spots, int site, int day) {
            for (int i = 0; i < spots.count(); i++) {
                if (spots.at(i, SPOT_SITE) == site && spots.at(i, SPOT_DAY) == day) {
                    return true;
                }
            }
            return false;
        }

        void addAct(int kind, int land, int of, int number) {
            int act = acts.open(kind);
            acts.put(act, ACT_DAY, clock);
            acts.put(act, ACT_LAND, land);
            acts.put(act, ACT_OF, of);
            acts.put(act, ACT_NUMBER, number);
        }

        void openWays(int site) {
            ways.open(NONE);
            for (int other = 0; other < MOST_SITES; other++) {
                ways.put(site, other, other == site ? 0 : NONE);
            }
        }

        /** Each shortest WAY takes a new ROAD once at most: so one look at each pair is enough. */
        void shortenWays(int a, int b, int days) {
            for (int from = 0; from < sites.count(); from++) {
                for (int to = 0; to < sites.count(); to++) {
                    shorten(from, to, a, b, days);
                    shorten(from, to, b, a, days);
                }
            }
        }

        private void shorten(int from, int to, int a, int b, int days) {
            int head = ways.at(from, a);
            int tail = ways.at(b, to);
            if (head == NONE || tail == NONE) {
                return;
            }
            int old = ways.at(from, to);
            if (old == NONE || head + days + tail < old) {
                ways.put(from, to, head + days + tail);
            }
        }

        int placeOn(int thing, int day) {
            if (day < things.at(thing, THING_DAY)) {
                return NOT_MADE;
            }
            int gone = things.at(thing, THING_GONE);
            if (gone != NONE && day >= gone) {
                return GONE;
            }
            int move = things.at(thing, THING_LAST_MOVE);
            for (int n = 0; n < MOST_MOVES && move != NONE; n++) {
                if (moves.at(move, MOVE_DAY) <= day) {
                    return day < moves.at(move, MOVE_COMING) ? ON_ROAD : moves.at(move, MOVE_TO);
                }
                move = moves.at(move, MOVE_AHEAD);
            }
            return things.at(thing, THING_SITE);
        }

        boolean isWhole(int seal, int day) {
            int site = seals.at(seal, SPOT_SITE);
            int put = seals.at(seal, SPOT_DAY);
            for (int move = 0; move < moves.count(); move++) {
                int leaving = moves.at(move, MOVE_DAY);
                if (moves.at(move, MOVE_FROM) == site && leaving > put && leaving <= day) {
                    return false;
                }
                int coming = moves.at(move, MOVE_COMING);
                if (moves.at(move, MOVE_TO) == site && coming > put && coming <= day) {
                    return false;
                }
            }
            return true;
        }

        /** The latest SEAL of a SITE of those put on a DAY or ahead. */
        int latestSeal(int site, int day) {
            for (int seal = seals.count() - 1; seal >= 0; seal--) {
                if (seals.at(seal, SPOT_SITE) == site && seals.at(seal, SPOT_DAY) <= day) {
                    return seal;
                }
            }
            return NONE;
        }

        /** Only the latest SEAL can be whole: none is put on a SITE that has a whole one. */
        boolean isSealed(int site) {
            int seal = latestSeal(site, clock);
            return seal != NONE && isWhole(seal, clock);
        }

        boolean isCounting(int text, int thing, int site) {
            treaty.look(things, thing, site == NONE ? ROAD_CLASS : sites.at(site, SITE_CLASS));
            return text == NONE || treaty.someHolds(text, COUNTS);
        }

        int numberCounting(int land, int day) {
            int text = treaty.textFor(COUNTS, day);
            int number = 0;
            for (int thing = 0; thing < things.count(); thing++) {
                if (things.at(thing, THING_LAND) == land) {
                    int place = placeOn(thing, day);
                    if (place <= ON_ROAD && isCounting(text, thing, place == ON_ROAD ? NONE : place)) {
                        number++;
                    }
                }
            }
            return number;
        }

        int numberLarge(int site, int day) {
            int number = 0;
            for (int thing = 0; thing < things.count(); thing++) {
                if (things.at(thing, THING_LENGTH) >= seen && placeOn(thing, day) == site) {
                    number++;
                }
            }
            return number;
        }

        void lookAround(int visit, int site, int day) {
            int text = treaty.textFor(VEIL, day);
            int klass = sites.at(site, SITE_CLASS);
            for (int thing = 0; thing < things.count(); thing++) {
                if (placeOn(thing, day - 1) == site) {
                    treaty.look(things, thing, klass);
                    int column = treaty.someHolds(text, VEIL) ? VISIT_VEILED : things.at(thing, THING_SORT);
                    visits.put(visit, column, visits.at(visit, column) + 1);
                }
            }
        }

        void lookAtSeal(int visit, int site, int day) {
            int seal = latestSeal(site, day);
            int whole = seal == NONE ? NONE : isWhole(seal, day) ? 1 : 0;
            visits.put(visit, VISIT_SEAL, whole);
            visits.put(visit, VISIT_SEALED, seals.at(seal, SPOT_DAY));
        }

        void copy(State other) {
            if (other == null) {
                return;
            }
            clock = other.clock;
            el = other.el;
            ew = other.ew;
            seen = other.seen;
            roads = other.roads;
            sorts.copy(other.sorts);
            sites.copy(other.sites);
            ways.copy(other.ways);
            things.copy(other.things);
            moves.copy(other.moves);
            seals.copy(other.seals);
            treaty.copy(other.treaty);
            tolds.copy(other.tolds);
            visits.copy(other.visits);
            pictures.copy(other.pictures);
            questions.copy(other.questions);
            acts.copy(other.acts);
            clouds.copy(other.clouds);
            watches.copy(other.watches);
        }
    }

    /** THE TREATY: its TEXTS, their CLAUSES, and the conditions' codes. */
    static final class Treaty {
        final Rows texts;
        final Rows clauses;
        final Rows codes;
        // what the words of a condition say of the thing that is looked at, in those words' order
        private final int[] fields;

        Treaty() {
            texts = new Rows(MOST_TEXTS, 4);
            clauses = new Rows(MOST_TEXTS * MOST_CLAUSES, 4);
            codes = new Rows(MOST_TEXTS * MOST_BYTES, 1);
            fields = new int[LAND - SORT + 1];
        }

        void copy(Treaty other) {
            if (other == null) {
                return;
            }
            texts.copy(other.texts);
            clauses.copy(other.clauses);
            codes.copy(other.codes);
        }

        int adopt(Reader reader, int from) {
            int text = texts.open(from);
            int kinds = 0;
            int start = codes.count();
            texts.put(text, TEXT_CLAUSE, clauses.count());
            for (int i = 0; i < reader.clauses.count(); i++) {
                int kind = reader.clauses.at(i, CLAUSE_KIND);
                // a condition's codes lie further on here than they did for the reader
                int shift = kind == COUNTS || kind == VEIL ? start : 0;
                int clause = clauses.open(kind);
                clauses.put(clause, CLAUSE_A, reader.clauses.at(i, CLAUSE_A) + shift);
                clauses.put(clause, CLAUSE_B, reader.clauses.at(i, CLAUSE_B) + shift);
                clauses.put(clause, CLAUSE_C, reader.clauses.at(i, CLAUSE_C));
                kinds |= 1 << kind;
            }
            for (int i = 0; i < reader.codes.count(); i++) {
                codes.open(reader.codes.at(i, 0));
            }
            texts.put(text, TEXT_KINDS, kinds);
            texts.put(text, TEXT_END, clauses.count());
            return text;
        }

        int textFor(int kind, int day) {
            int best = NONE;
            for (int text = 0; text < texts.count(); text++) {
                int from = texts.at(text, TEXT_FROM);
                if ((texts.at(text, TEXT_KINDS) >> kind & 1) == 1 && from <= day) {
                    if (best == NONE || from >= texts.at(best, TEXT_FROM)) {
                        best = text;
                    }
                }
            }
            return best;
        }

        int tells(int what, int day) {
            switch (what) {
                case 0: return limitOn(day);
                case 1: return first(TELL, day, CLAUSE_A, 30);
                case 2: return first(VISITS, day, CLAUSE_A, 99);
                case 3: return first(STEPS, day, CLAUSE_A, 3);
                case 4: return first(STEPS, day, CLAUSE_B, 0);
                case 5: return first(ANSWER, day, CLAUSE_A, 30);
                default: return NONE;
            }
        }

        private int limitOn(int day) {
            int text = textFor(LIMIT, day);
            int least = 99;
            for (int i = texts.at(text, TEXT_CLAUSE); i < texts.at(text, TEXT_END); i++) {
                boolean holds = clauses.at(i, CLAUSE_B) <= day && day <= clauses.at(i, CLAUSE_C);
                if (clauses.at(i, CLAUSE_KIND) == LIMIT && holds) {
                    least = Math.min(least, clauses.at(i, CLAUSE_A));
                }
            }
            return least;
        }

        private int first(int kind, int day, int column, int without) {
            int text = textFor(kind, day);
            for (int i = texts.at(text, TEXT_CLAUSE); i < texts.at(text, TEXT_END); i++) {
                if (clauses.at(i, CLAUSE_KIND) == kind) {
                    return clauses.at(i, column);
                }
            }
            return without;
        }

        void look(Rows things, int thing, int klass) {
            see(SORT, things.at(thing, THING_SORT));
            see(LENGTH, things.at(thing, THING_LENGTH));
            see(WEIGHT, things.at(thing, THING_WEIGHT));
            see(CLASS, klass);
            see(LAND, things.at(thing, THING_LAND));
        }

        private void see(int word, int number) {
            int field = word - SORT;
            if (field >= 0 && field < fields.length) {
                fields[field] = number;
            }
        }

        /** Whether one of a TEXT's CLAUSES of a kind is so for the thing that is looked at. */
        boolean someHolds(int text, int kind) {
            for (int i = texts.at(text, TEXT_CLAUSE); i < texts.at(text, TEXT_END); i++) {
                if (clauses.at(i, CLAUSE_KIND) == kind && holds(i)) {
                    return true;
                }
            }
            return false;
        }

        /** The truths found so far lie in the bits, the latest lowest: 8 open ones never fill 64 bits. */
        private boolean holds(int clause) {
            long bits = 0;
            int end = clauses.at(clause, CLAUSE_B);
            for (int i = clauses.at(clause, CLAUSE_A); i < end; i++) {
                int code = codes.at(i, 0);
                if (code == CODE_WORD + NOT) {
                    bits ^= 1;
                } else if (code == CODE_WORD + AND) {
                    bits = bits >> 1 & (bits | ~1L);
                } else if (code == CODE_WORD + OR) {
                    bits = bits >> 1 | bits & 1;
                } else {
                    boolean so = compares(operand(code), codes.at(i + 1, 0), operand(codes.at(i + 2, 0)));
                    bits = bits << 1 | (so ? 1 : 0);
                    i += 2;
                }
            }
            return (bits & 1) == 1;
        }

        private int operand(int code) {
            int field = code - CODE_FIELD - SORT;
            return field >= 0 && field < fields.length ? fields[field] : code;
        }

        private static boolean compares(int left, int code, int right) {
            switch (code - CODE_WORD) {
                case LESS: return left < right;
                case NOT_ABOVE: return left <= right;
                case ABOVE: return left > right;
                case NOT_BELOW: return left >= right;
                case LIKE: return left == right;
                default: return left != right;
            }
        }
    }

    /** The tape, and its TOKENS. */
    static final class Tokens {
        final Rows tape;
        final Rows rows;
        private int next;

        Tokens() {
            tape = new Rows(MOST_BYTES, 1);
            rows = new Rows(MOST_BYTES + 1, 3);
            next = 0;
        }

        void addWord(int word) {
            for (int shift = 24; shift >= 0; shift -= 8) {
                tape.open(word >> shift & 255);
            }
        }

        /** Behind the tape each sign is NONE: no run of blanks, letters or digits goes beyond its end. */
        void split() {
            rows.cut(0);
            next = 0;
            for (int n = 0; n <= MOST_BYTES; n++) {
                int sign = tape.at(next, 0);
                int token = rows.open(END);
                rows.put(token, TOKEN_PLACE, next);
                if (sign == NONE) {
                    return;
                }
                if (sign == 32 || sign == 10) {
                    rows.cut(token);
                    next++;
                } else if (isLetter(sign)) {
                    rows.put(token, TOKEN_KIND, takeWord());
                } else if (isDigit(sign)) {
                    rows.put(token, TOKEN_KIND, NUMBER);
                    rows.put(token, TOKEN_NUMBER, takeNumber());
                } else {
                    rows.put(token, TOKEN_KIND, takeSign(sign));
                }
            }
        }

        private static boolean isLetter(int sign) {
            return sign >= 'a' && sign <= 'z' || sign >= 'A' && sign <= 'Z';
        }

        private static boolean isDigit(int sign) {
            return sign >= '0' && sign <= '9';
        }

        private int takeWord() {
            int start = next;
            for (int n = 0; n < MOST_BYTES && isLetter(tape.at(next, 0)); n++) {
                next++;
            }
            int word = 0;
            int same = 0;
            for (int i = 0; i < WORDS.length(); i++) {
                char letter = WORDS.charAt(i);
                if (letter != ' ') {
                    same = same != NONE && tape.at(start + same, 0) == letter ? same + 1 : NONE;
                } else if (same == next - start) {
                    return word;
                } else {
                    word++;
                    same = 0;
                }
            }
            return NO_TOKEN;
        }

        private int takeNumber() {
            int number = 0;
            for (int n = 0; n < MOST_BYTES && isDigit(tape.at(next, 0)); n++) {
                // held just beyond the greatest NUMBER, so that a long one doesn't wrap around
                number = Math.min(number * 10 + tape.at(next, 0) - '0', MOST_NUMBER + 1);
                next++;
            }
            return number;
        }

        private int takeSign(int sign) {
            next++;
            boolean longer = tape.at(next, 0) == '=' && (sign == '<' || sign == '>');
            if (longer) {
                next++;
            }
            switch (sign) {
                case '<': return longer ? NOT_ABOVE : LESS;
                case '>': return longer ? NOT_BELOW : ABOVE;
                case '=': return LIKE;
                case '#': return UNLIKE;
                case '(': return OPEN;
                case ')': return CLOSE;
                case ';': return STOP;
                default: return NO_TOKEN;
            }
        }
    }

    /** Reads TOKENS into CLAUSES and codes, or finds their FAULT; it stands still at that one. */
    static final class Reader {
        final Rows clauses;
        final Rows codes;
        boolean hasRead;
        int fault;
        int faultPlace;
        final Tokens tokens;
        private final Rows rows;
        private int next;

        Reader() {
            clauses = new Rows(MOST_CLAUSES, 4);
            codes = new Rows(MOST_BYTES, 1);
            tokens = new Tokens();
            rows = tokens.rows;
            hasRead = false;
            fault = 0;
            faultPlace = NONE;
            next = 0;
        }

        boolean read() {
            tokens.split();
            next = 0;
            clauses.cut(0);
            codes.cut(0);
            hasRead = true;
            fault = 0;
            for (int n = 0; n <= MOST_CLAUSES && fault == 0 && rows.at(next, TOKEN_KIND) != END; n++) {
                clause(n);
            }
            faultPlace = fault == 0 ? NONE : rows.at(next, TOKEN_PLACE);
            return fault == 0;
        }

        private boolean fail(int why) {
            fault = why;
            return false;
        }

        private boolean clause(int n) {
            int kind = rows.at(next, TOKEN_KIND);
            if (kind < COUNTS || kind > ANSWER) {
                return fail(1);
            }
            if (n >= MOST_CLAUSES) {
                return fail(4);
            }
            next++;
            int row = clauses.open(kind);
            switch (kind) {
                case LIMIT:
                    return among(row, CLAUSE_A, 0, 99) && expect(FROM) && among(row, CLAUSE_B, 0, LAST_DAY)
                        && expect(TO) && among(row, CLAUSE_C, clauses.at(row, CLAUSE_B), LAST_DAY) && expect(STOP);
                case TELL:
                case ANSWER:
                    return among(row, CLAUSE_A, 0, 360) && expect(STOP);
                case VISITS:
                    return among(row, CLAUSE_A, 0, 99) && expect(STOP);
                case STEPS:
                    return among(row, CLAUSE_A, 1, 9) && expect(WAIT) && among(row, CLAUSE_B, 0, 99) && expect(STOP);
                default:
                    clauses.put(row, CLAUSE_A, codes.count());
                    boolean good = either(0);
                    clauses.put(row, CLAUSE_B, codes.count());
                    return good && expect(STOP);
            }
        }

        private boolean expect(int due) {
            if (rows.at(next, TOKEN_KIND) != due) {
                return fail(1);
            }
            next++;
            return true;
        }

        private boolean among(int row, int column, int least, int most) {
            int number = rows.at(next, TOKEN_NUMBER);
            if (rows.at(next, TOKEN_KIND) != NUMBER) {
                return fail(1);
            }
            if (number < least || number > most) {
                return fail(2);
            }
            clauses.put(row, column, number);
            next++;
            return true;
        }

        private boolean either(int depth) {
            if (!both(depth)) {
                return false;
            }
            for (int n = 0; n < MOST_BYTES && rows.at(next, TOKEN_KIND) == OR; n++) {
                next++;
                if (!both(depth)) {
                    return false;
                }
                codes.open(CODE_WORD + OR);
            }
            return true;
        }

        private boolean both(int depth) {
            if (!single(depth)) {
                return false;
            }
            for (int n = 0; n < MOST_BYTES && rows.at(next, TOKEN_KIND) == AND; n++) {
                next++;
                if (!single(depth)) {
                    return false;
                }
                codes.open(CODE_WORD + AND);
            }
            return true;
        }

        private boolean single(int depth) {
            int token = rows.at(next, TOKEN_KIND);
            if (token != NOT && token != OPEN) {
                return one() && relation() && one();
            }
            if (depth >= MOST_OPEN) {
                return fail(3);
            }
            next++;
            if (token == OPEN) {
                return either(depth + 1) && expect(CLOSE);
            }
            boolean good = single(depth + 1);
            codes.open(CODE_WORD + NOT);
            return good;
        }

        private boolean one() {
            int token = rows.at(next, TOKEN_KIND);
            int number = rows.at(next, TOKEN_NUMBER);
            if (token == NUMBER && number > MOST_NUMBER) {
                return fail(2);
            }
            if (token != NUMBER && (token < SORT || token > LAND)) {
                return fail(1);
            }
            codes.open(token == NUMBER ? number : CODE_FIELD + token);
            next++;
            return true;
        }

        private boolean relation() {
            int token = rows.at(next, TOKEN_KIND);
            if (token < LESS || token > UNLIKE) {
                return fail(1);
            }
            codes.open(CODE_WORD + token);
            next++;
            return true;
        }
    }

    /** What the other LAND KNOWS of a SITE's numbers, and what it was TOLD. */
    static final class Knowing {
        /** For each SORT a bit for each POSSIBLE number. */
        private final long[] sets;
        /** For each thing the row by which its TOLD PLACE is known. */
        private final int[] latest;

        Knowing() {
            sets = new long[SORTS];
            latest = new int[MOST_THINGS];
        }

        void hear(State s, int day, int known) {
            for (int thing = 0; thing < latest.length; thing++) {
                latest[thing] = NONE;
            }
            for (int row = 0; row < s.tolds.count(); row++) {
                int thing = s.tolds.at(row, TOLD_THING);
                int from = s.tolds.at(row, TOLD_FROM);
                if (thing >= 0 && thing < latest.length && from <= day && s.tolds.at(row, TOLD_DAY) <= known) {
                    // without a row ahead this compares with NONE, which is below each DAY
                    if (from >= s.tolds.at(latest[thing], TOLD_FROM)) {
                        latest[thing] = row;
                    }
                }
            }
        }

        int placeTold(State s, int thing) {
            if (thing < 0 || thing >= latest.length) {
                return NONE;
            }
            return s.tolds.at(latest[thing], TOLD_PLACE);
        }

        int numberTold(State s, int site, int sort) {
            int number = 0;
            for (int thing = 0; thing < s.things.count(); thing++) {
                if (s.things.at(thing, THING_SORT) == sort && placeTold(s, thing) == site) {
                    number++;
                }
            }
            return number;
        }

        boolean isPossible(int sort, int number) {
            return sort >= 0 && sort < sets.length && number >= 0 && number <= MOST_THINGS
                && (sets[sort] >> number & 1) == 1;
        }

        int least(int sort) {
            for (int number = 0; number <= MOST_THINGS; number++) {
                if (isPossible(sort, number)) {
                    return number;
                }
            }
            return NONE;
        }

        int greatest(int sort) {
            for (int number = MOST_THINGS; number >= 0; number--) {
                if (isPossible(sort, number)) {
                    return number;
                }
            }
            return NONE;
        }

        /**
         * From DAY 0 to the last one, over the DAYS alone on which something can change. A further DAY without
         * RECORDS, VISITS or PICTURES leaves the numbers as they are: QUIET DAYS begin where all numbers are
         * POSSIBLE already, or where there is a PORTAL, and they end with a VISIT.
         */
        void walk(State s, int site, int last, int known) {
            for (int sort = 0; sort < sets.length; sort++) {
                sets[sort] = ALL_NUMBERS;
            }
            int day = 0;
            for (int n = 0; n <= LAST_DAY && day <= last; n++) {
                if (!isQuiet(s, site, day, known)) {
                    comeAndGo(s, site, day);
                }
                spread(s.sites.at(site, SITE_CLASS));
                if (day < known) {
                    visitedOn(s, site, day + 1);
                    picturedOn(s, site, day + 1);
                }
                day = nextDay(s, site, day, known);
            }
        }

        private static boolean isQuiet(State s, int site, int day, int known) {
            for (int visit = 0; visit < s.visits.count(); visit++) {
                int behind = s.visits.at(visit, VISIT_DAY);
                if (s.visits.at(visit, VISIT_SITE) == site && s.visits.at(visit, VISIT_SEAL) == 1
                    && behind > day && behind <= known && s.visits.at(visit, VISIT_SEALED) < day) {
                    return true;
                }
            }
            return false;
        }

        private void comeAndGo(State s, int site, int day) {
            if (s.sites.at(site, SITE_PORTAL) == 0) {
                for (int sort = 0; sort < sets.length; sort++) {
                    sets[sort] = ALL_NUMBERS;
                }
                return;
            }
            for (int move = 0; move < s.moves.count(); move++) {
                if (s.moves.at(move, MOVE_FROM) == site && s.moves.at(move, MOVE_DAY) == day) {
                    passPortal(s, s.moves.at(move, MOVE_THING), true);
                }
                if (s.moves.at(move, MOVE_TO) == site && s.moves.at(move, MOVE_COMING) == day) {
                    passPortal(s, s.moves.at(move, MOVE_THING), false);
                }
            }
        }

        private void passPortal(State s, int thing, boolean leaves) {
            int fitting = 0;
            for (int sort = 0; sort < sets.length; sort++) {
                fitting += fits(s, thing, sort) ? 1 : 0;
            }
            for (int sort = 0; sort < sets.length; sort++) {
                if (fits(s, thing, sort)) {
                    long moved = leaves ? sets[sort] >> 1 : sets[sort] << 1 & ALL_NUMBERS;
                    sets[sort] = fitting == 1 ? moved : sets[sort] | moved;
                }
            }
        }

        private static boolean fits(State s, int thing, int sort) {
            int length = s.things.at(thing, THING_LENGTH);
            int weight = s.things.at(thing, THING_WEIGHT);
            return length + s.el >= s.sorts.at(sort, SORT_SHORTEST) && length - s.el <= s.sorts.at(sort, SORT_LONGEST)
                && weight + s.ew >= s.sorts.at(sort, SORT_LIGHTEST) && weight - s.ew <= s.sorts.at(sort, SORT_HEAVIEST);
        }

        private void spread(int klass) {
            for (int sort = 0; sort < sets.length; sort++) {
                if (klass == PLANT && sets[sort] != 0) {
                    sets[sort] = between(least(sort), MOST_THINGS);
                }
                if (klass == SCRAP && sets[sort] != 0) {
                    sets[sort] = between(0, greatest(sort));
                }
            }
        }

        private static long between(int low, int high) {
            long below = (1L << Math.max(0, Math.min(low, MOST_THINGS + 1))) - 1;
            long upTo = (1L << Math.max(0, Math.min(high, MOST_THINGS) + 1)) - 1;
            return upTo & ~below;
        }

        private void keep(int sort, int low, int high) {
            if (sort >= 0 && sort < sets.length) {
                sets[sort] &= between(low, high);
            }
        }

        private void visitedOn(State s, int site, int day) {
            for (int visit = 0; visit < s.visits.count(); visit++) {
                if (s.visits.at(visit, VISIT_SITE) == site && s.visits.at(visit, VISIT_DAY) == day) {
                    for (int sort = 0; sort < sets.length; sort++) {
                        int plain = s.visits.at(visit, sort);
                        keep(sort, plain, plain + s.visits.at(visit, VISIT_VEILED));
                    }
                }
            }
        }

        private void picturedOn(State s, int site, int day) {
            for (int picture = 0; picture < s.pictures.count(); picture++) {
                if (s.pictures.at(picture, SPOT_SITE) == site && s.pictures.at(picture, SPOT_DAY) == day) {
                    for (int sort = 0; sort < sets.length; sort++) {
                        if (s.sorts.at(sort, SORT_SHORTEST) >= s.seen) {
                            keep(sort, 0, s.pictures.at(picture, SPOT_NUMBER));
                        }
                    }
                }
            }
        }

        /** The next DAY on which something can change; beyond all DAYS if there is none. */
        private static int nextDay(State s, int site, int day, int known) {
            int next = LAST_DAY + 1;
            for (int move = 0; move < s.moves.count(); move++) {
                if (s.moves.at(move, MOVE_FROM) == site) {
                    next = sooner(next, s.moves.at(move, MOVE_DAY), day);
                }
                if (s.moves.at(move, MOVE_TO) == site) {
                    next = sooner(next, s.moves.at(move, MOVE_COMING), day);
                }
            }
            for (int visit = 0; visit < s.visits.count(); visit++) {
                int on = s.visits.at(visit, VISIT_DAY);
                if (s.visits.at(visit, VISIT_SITE) == site && on <= known) {
                    next = sooner(next, on - 1, day);
                }
            }
            for (int picture = 0; picture < s.pictures.count(); picture++) {
                int on = s.pictures.at(picture, SPOT_DAY);
                if (s.pictures.at(picture, SPOT_SITE) == site && on <= known) {
                    next = sooner(next, on - 1, day);
                }
            }
            return next;
        }

        /** The least DAY behind a day of those that are: the change's own and the one behind it. */
        private static int sooner(int next, int change, int day) {
            int own = change > day ? change : change + 1;
            return own > day ? Math.min(next, own) : next;
        }
    }

    /** How ACTS are JUDGED. */
    static final class Judge {
        // the number that COUNT is kept for a LAND and a DAY while one call goes on: ACTS often share them
        private int land;
        private int day;
        private boolean over;

        Judge() {
            land = NONE;
            day = NONE;
            over = false;
        }

        void begin() {
            land = NONE;
        }

        int judge(State s, int act, int known) {
            int number = s.acts.at(act, ACT_NUMBER);
            switch (s.acts.at(act, ACT_KIND)) {
                case MADE: return isOver(s, act) ? 1 : 0;
                case MOVED: return isOver(s, act) ? 1 : judgeMove(s, number, known);
                case STEPPED: return isHasty(s, act) ? 4 : 0;
                case SAID: return isWrong(s, number) ? 5 : 0;
                case VISITED: return isTooMany(s, number) ? 6 : 0;
                case ASKED: return judgeQuestion(s, number, known);
                default: return 0;
            }
        }

        private boolean isOver(State s, int act) {
            int actLand = s.acts.at(act, ACT_LAND);
            int actDay = s.acts.at(act, ACT_DAY);
            if (actLand != land || actDay != day) {
                land = actLand;
                day = actDay;
                over = s.numberCounting(land, day) > s.treaty.tells(0, day);
            }
            return over;
        }

        private static int judgeMove(State s, int move, int known) {
            int thing = s.moves.at(move, MOVE_THING);
            int coming = s.moves.at(move, MOVE_COMING);
            int last = coming + s.treaty.tells(1, coming);
            for (int i = 0; i < s.tolds.count(); i++) {
                int on = s.tolds.at(i, TOLD_DAY);
                if (s.tolds.at(i, TOLD_THING) == thing && s.tolds.at(i, TOLD_PLACE) == s.moves.at(move, MOVE_TO)
                    && s.tolds.at(i, TOLD_FROM) == coming && on <= last && on <= known) {
                    return 0;
                }
            }
            return known > last ? 2 : 3;
        }

        private static boolean isHasty(State s, int act) {
            int on = s.acts.at(act, ACT_DAY);
            int ahead = s.acts.at(act, ACT_NUMBER);
            return ahead != NONE && on - ahead < s.treaty.tells(4, on);
        }

        private static boolean isWrong(State s, int told) {
            int place = s.placeOn(s.tolds.at(told, TOLD_THING), s.tolds.at(told, TOLD_FROM));
            return place != s.tolds.at(told, TOLD_PLACE);
        }

        private static boolean isTooMany(State s, int visit) {
            int on = s.visits.at(visit, VISIT_DAY);
            int ahead = 0;
            for (int i = 0; i < visit; i++) {
                if (s.visits.at(i, VISIT_LAND) == s.visits.at(visit, VISIT_LAND)
                    && s.visits.at(i, VISIT_DAY) / YEAR == on / YEAR) {
                    ahead++;
                }
            }
            return ahead >= s.treaty.tells(2, on);
        }

        private static int judgeQuestion(State s, int question, int known) {
            int on = s.questions.at(question, QUESTION_DAY);
            int last = on + s.treaty.tells(5, on);
            int answered = s.questions.at(question, QUESTION_ANSWERED);
            if (answered != NONE && answered <= last && answered <= known) {
                return 0;
            }
            return known > last ? 7 : 3;
        }
    }

    /** VALUE and SHARES of a set of SITES, as a fraction in lowest terms, and what ROWS PROVE. */
    static final class Shares {
        private final int[] chances;
        private final int[] weights;
        private int size;
        private int visits;
        long upper;
        long lower;

        Shares() {
            chances = new int[MOST_IN_SET];
            weights = new int[MOST_IN_SET];
        }

        /** Takes a set and its VALUE; false if there is none such. */
        boolean take(State s, int set, int q) {
            if (set < 1 || set >= 1 << s.sites.count()) {
                return false;
            }
            size = 0;
            for (int site = 0; site < s.sites.count(); site++) {
                if ((set >> site & 1) == 1) {
                    if (size >= chances.length) {
                        return false;
                    }
                    chances[size] = s.sites.at(site, SITE_CHANCE);
                    size++;
                }
            }
            visits = q;
            if (q < 1 || q > size) {
                return false;
            }
            evaluate();
            return true;
        }

        /** q / (the sum of 1 / CHANCE), but never above the least CHANCE: no SHARE is above 1. */
        private void evaluate() {
            long product = 1;
            long sum = 0;
            int least = MOST_CHANCE;
            for (int i = 0; i < size && i < chances.length; i++) {
                sum = sum * chances[i] + product;
                product *= chances[i];
                least = Math.min(least, chances[i]);
            }
            if (visits * product <= least * sum) {
                reduce(visits * product, sum);
            } else {
                reduce(least, 1);
            }
        }

        void divide(int chance) {
            reduce(upper, lower * chance);
        }

        private void reduce(long above, long below) {
            long a = above;
            long b = below;
            for (int n = 0; n < 1000 && b != 0; n++) {
                long rest = a % b;
                a = b;
                b = rest;
            }
            upper = a > 0 ? above / a : above;
            lower = a > 0 ? below / a : below;
        }

        void weigh(int i, int weight) {
            if (i >= 0 && i < weights.length) {
                weights[i] = weight;
            }
        }

        /** 0: the bound is VALUE; 1: it is above. */
        int prove() {
            long sum = 0;
            for (int i = 0; i < size && i < weights.length; i++) {
                if (weights[i] < 0 || weights[i] > 999) {
                    return NONE;
                }
                sum += weights[i];
            }
            if (sum == 0) {
                return NONE;
            }
            return greatestTogether() * lower == upper * sum ? 0 : 1;
        }

        private long greatestTogether() {
            long together = 0;
            for (int i = 0; i < size && i < weights.length && i < chances.length; i++) {
                weights[i] *= chances[i];
            }
            for (int n = 0; n < visits; n++) {
                int best = 0;
                for (int i = 1; i < size && i < weights.length; i++) {
                    best = best < weights.length && weights[i] > weights[best] ? i : best;
                }
                if (best < weights.length) {
                    together += weights[best];
                    weights[best] = NONE;
                }
            }
            return together;
        }
    }

    /** Finds the moves that would go UNSEEN. */
    static final class Search {
        private final boolean[] closed;
        private final boolean[] eyes;
        private int met;
        int thing;
        int site;
        int day;

        Search() {
            closed = new boolean[MOST_SITES];
            eyes = new boolean[MOST_SITES * MOST_AHEAD];
        }

        /** How many there are; the wanted one's parts are kept, if it is met. */
        int find(State s, int land, int n, int wanted) {
            met = 0;
            int span = Math.min(n, LAST_DAY + 1 - s.clock);
            markClosed(s);
            markEyes(s, span);
            for (int i = 0; i < s.things.count(); i++) {
                int from = s.placeOn(i, s.clock);
                if (s.things.at(i, THING_LAND) == land && !isClosed(from)) {
                    for (int to = 0; to < s.sites.count(); to++) {
                        if (s.ways.at(from, to) > 0 && !isClosed(to)) {
                            findDays(s, i, from, to, span, wanted);
                        }
                    }
                }
            }
            return met;
        }

        private void findDays(State s, int what, int from, int to, int span, int wanted) {
            boolean large = s.things.at(what, THING_LENGTH) >= s.seen;
            for (int offset = 0; offset < span; offset++) {
                if (!large || !isEyed(from, offset) && !isEyed(to, offset)) {
                    if (met == wanted) {
                        thing = what;
                        site = to;
                        day = s.clock + offset;
                    }
                    met++;
                }
            }
        }

        private void markClosed(State s) {
            for (int i = 0; i < s.sites.count() && i < closed.length; i++) {
                closed[i] = s.sites.at(i, SITE_PORTAL) == 1 || s.isSealed(i);
            }
        }

        private boolean isClosed(int place) {
            return place < 0 || place >= closed.length || closed[place];
        }

        private void markEyes(State s, int span) {
            for (int i = 0; i < eyes.length; i++) {
                eyes[i] = false;
            }
            for (int i = 0; i < s.watches.count(); i++) {
                int on = s.watches.at(i, SPOT_SITE);
                int when = s.watches.at(i, SPOT_DAY);
                int eye = on * MOST_AHEAD + when - s.clock;
                boolean blind = s.sites.at(on, SITE_COVERED) == 1 || State.hasSpot(s.clouds, on, when);
                if (when >= s.clock && when < s.clock + span && !blind && eye >= 0 && eye < eyes.length) {
                    eyes[eye] = true;
                }
            }
        }

        private boolean isEyed(int place, int offset) {
            int eye = place * MOST_AHEAD + offset;
            return eye >= 0 && eye < eyes.length && eyes[eye];
        }
    }
}
