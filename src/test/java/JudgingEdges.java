import java.util.function.Supplier;

/** Edges of the promises 34 to 46, and of the terms under IV and V: ACTS, how they are JUDGED, VISITS shared, what is UNSEEN, THE IMAGE. */
final class JudgingEdges extends Dues {
    /** The lands with things 0 at SITE 0 and 1 at SITE 3, and a TEXT. */
    private static CountTreaty twoThings(String words) {
        CountTreaty x = with(lands(false), words, 0);
        x.make(0, 0, 1, 1);
        x.make(3, 0, 1, 1);
        return x;
    }

    /** SITES of LAND 0 with CHANCES. */
    private static CountTreaty chances(int... chances) {
        CountTreaty x = new CountTreaty();
        for (int i = 0; i < chances.length; i++) {
            x.site(0, 0, false, false);
            yes("chance", x.chance(i, chances[i]));
        }
        return x;
    }

    private static void fraction(String call, long upper, long lower, long wantUpper, long wantLower) {
        due(call + ": upper", upper, wantUpper);
        due(call + ": lower", lower, wantLower);
    }

    private static void value(CountTreaty x, int set, int q, long upper, long lower) {
        fraction("value(" + set + ", " + q + ")", x.value(set, q, false), x.value(set, q, true), upper, lower);
    }

    private static void share(CountTreaty x, int set, int q, int site, long upper, long lower) {
        fraction("share(" + set + ", " + q + ", " + site + ")", x.share(set, q, site, false), x.share(set, q, site, true), upper, lower);
    }

    // Promise 34

    @Edge(promise = 34, says = "Of an ACT: 0 what it is, 1 its DAY, 2 its LAND, 3 the thing (MADE, MOVED, STEP, TOLD), the SITE (VISIT, QUESTION), the QUESTION (ANSWER).")
    static void ofEachAct() {
        CountTreaty x = twoThings("");
        x.make(4, 0, 1, 1);
        go(x, 6);
        x.step(1);
        x.move(2, 5);
        x.tell(2, 4, 0);
        x.visit(0, 5);
        x.ask(0, 4);
        x.ask(1, 3);
        x.days(1);
        x.answer(1);
        x.answer(0);
        int[][] acts = {{0, 0, 0, 0}, {0, 0, 0, 1}, {0, 0, 1, 2}, {2, 6, 0, 1}, {1, 6, 1, 2}, {3, 6, 1, 2}, {4, 6, 0, 5}, {5, 6, 0, 4}, {5, 6, 1, 3}, {6, 7, 0, 1}, {6, 7, 1, 0}};
        for (int i = 0; i < acts.length; i++) {
            for (int what = 0; what < 4; what++) due("act(" + i + ", " + what + ")", x.act(i, what), acts[i][what]);
        }
    }

    @Edge(promise = 34, says = "NONE for others.")
    static void noSuchAct() {
        none("without any", lands(false).act(0, 0), lands(false).act(-1, 0));
        CountTreaty x = twoThings("");
        none("no such act", x.act(2, 0), x.act(-1, 0), x.act(FAR, 0), x.act(LOW, 0));
        none("nothing such", x.act(0, -1), x.act(0, 4), x.act(0, 5), x.act(0, FAR), x.act(0, LOW));
        none("nor of the last one", x.act(1, -1), x.act(1, 4), x.act(1, 5), x.act(1, FAR), x.act(1, LOW));
        due("the last of all", x.act(1, 3), 1);
    }

    @Edge(promise = 34, says = "ACTS are numbered as they come (each that was done): 0 MADE, 1 MOVED, 2 a STEP, 3 TOLD, 4 a VISIT, 5 a QUESTION, 6 an ANSWER.")
    static void eachThatWasDone() {
        CountTreaty x = twoThings("");
        none("refused", x.make(9, 0, 1, 1), x.move(0, 0), x.step(0), x.tell(0, 4, 0), x.visit(1, 0), x.ask(0, 0));
        no("refused", x.answer(0));
        x.seal(0);
        x.cloud(0, 0);
        x.watch(0, 0);
        x.chance(0, 3);
        x.days(1);
        x.picture(0);
        due("no acts but the makings", x.about(11), 2);
        due("the next one", x.step(1), 1);
        each("its number is 2", what -> x.act(2, what), 2, 1, 0, 1);
    }

    @Edge(promise = 34, says = "ACTS are numbered as they come (each that was done):")
    static void fiveHundredActs() {
        CountTreaty x = new CountTreaty();
        x.site(0, 0, false, false);
        x.site(0, 0, false, false);
        x.road(0, 1, 1);
        for (int i = 0; i < 40; i++) x.make(0, 0, 1, 1);
        for (int i = 0; i < 200; i++) x.tell(i % 40, 0, 0);
        for (int i = 0; i < 50; i++) x.ask(1, i % 2);
        for (int i = 0; i < 50; i++) x.answer(i);
        x.days(1);
        for (int i = 0; i < 100; i++) x.visit(1, 0);
        for (int i = 0; i < 40; i++) x.move(i, 1);
        x.days(1);
        for (int i = 0; i < 20; i++) x.move(i, 0);
        due("505 calls, of which 500 are acts", x.about(11), 500);
        due("the last one", x.act(499, 3), 19);
        none("none is behind it", x.act(500, 0));
        due("open", x.judged(499, 2), 3);
        due("the sixtieth that is open", x.fails(3, 2, 59), 499);
    }

    // Promise 35

    @Edge(promise = 35, says = "How an ACT is JUDGED as KNOWN on a DAY.")
    static void openThenJudged() {
        CountTreaty x = twoThings("");
        x.ask(1, 0);
        due("without a text thirty days", x.judged(2, 30), 3);
        due("and a day", x.judged(2, 31), 7);
        due("on the last day", x.judged(2, 1999), 7);
    }

    @Edge(promise = 35, says = "NONE for others.")
    static void judgedNothing() {
        none("without acts", lands(false).judged(0, 0), lands(false).judged(-1, 0));
        CountTreaty x = go(twoThings(""), 5);
        x.step(1);
        none("no such act", x.judged(3, 5), x.judged(-1, 5), x.judged(FAR, 5), x.judged(LOW, 5));
        none("ahead of its day", x.judged(2, 4), x.judged(2, 0), x.judged(2, -1), x.judged(0, -1), x.judged(0, LOW));
        none("beyond the days", x.judged(2, 2000), x.judged(2, FAR));
        due("its day", x.judged(2, 5), 0);
        due("the last day", x.judged(2, 1999), 0);
        due("the first act on its day", x.judged(0, 0), 0);
    }

    @Edge(promise = 35, says = "JUDGED as KNOWN on DAY q (its DAY or later): MADE, MOVED: 1, if on its DAY (as it is over, by acts up to now) more things of its LAND COUNT than LIMIT;")
    static void moreThanTheLimit() {
        CountTreaty x = with(lands(false), "limit 2 from 0 to 0;limit 1 from 1 to 1;", 0);
        x.make(0, 0, 1, 1);
        x.make(0, 0, 1, 1);
        each("just the limit", act -> x.judged(act, 0), 0, 0);
        x.make(4, 0, 1, 1);
        each("the other land has its own", act -> x.judged(act, 0), 0, 0, 0);
        x.make(0, 0, 1, 1);
        each("one more, by acts up to now", act -> x.judged(act, 0), 1, 1, 0, 1);
        x.days(1);
        x.move(0, 1);
        due("a move on the next day", x.judged(4, 1), 1);
        x.days(1);
        x.move(1, 1);
        due("on a day without a limit", x.judged(5, 2), 3);
        CountTreaty y = twoThings("limit 1 from 0 to 0;steps 1 wait 0;");
        due("more", y.judged(0, 0), 1);
        y.step(1);
        due("as the day is over one is gone", y.judged(0, 0), 0);
        due("its own making, too", y.judged(1, 0), 0);
        due("a step isn't judged so", y.judged(2, 0), 0);
        CountTreaty z = with(lands(false), "limit 0 from 0 to 1999;counts class#4;", 0);
        z.make(0, 0, 1, 1);
        due("none may count", z.judged(0, 0), 1);
        z.move(0, 1);
        due("none counts on the road", z.judged(0, 0), 0);
        due("so the move is open", z.judged(1, 0), 3);
        CountTreaty w = lands(false);
        for (int i = 0; i < 40; i++) w.make(0, 0, 1, 1);
        due("without a text", w.judged(39, 0), 0);
    }

    @Edge(promise = 35, says = "else MOVED: 2, if it wasn't TOLD of that thing that it is at that SITE from just the DAY of coming on, on a DAY not above that and TELL (of the DAY of coming), and q is above those: 3 (open), if q isn't yet.")
    static void movesTold() {
        for (int tell : new int[] {0, 1, 5, 360}) {
            Supplier<CountTreaty> moved = () -> {
                CountTreaty x = twoThings("tell " + tell + ";");
                x.move(0, 2);
                return x;
            };
            int last = 4 + tell;
            due("open on its day", moved.get().judged(2, 0), 3);
            due("open on the last day for it", moved.get().judged(2, last), 3);
            due("behind it", moved.get().judged(2, last + 1), 2);
            CountTreaty x = go(moved.get(), last);
            x.tell(0, 2, 4);
            due("told on the last day for it", x.judged(2, last), 0);
            due("and ever after", x.judged(2, 1999), 0);
            due("as known the day ahead", x.judged(2, last - 1), 3);
            CountTreaty y = go(moved.get(), last + 1);
            y.tell(0, 2, 4);
            due("told a day too late", y.judged(2, last + 1), 2);
            CountTreaty z = go(moved.get(), last);
            if (tell > 0) z.tell(0, 2, 5);
            z.tell(0, 2, 3);
            z.tell(0, 1, 4);
            z.tell(0, -1, 4);
            z.tell(1, 2, 4);
            due("from other days, at other sites, of another thing", z.judged(2, last + 1), 2);
        }
    }

    @Edge(promise = 35, says = "on a DAY not above that and TELL (of the DAY of coming), and q is above those: 3 (open), if q isn't yet.")
    static void tellOfTheDayOfComing() {
        CountTreaty x = with(twoThings("tell 9;"), "tell 3;", 4);
        x.move(0, 2);
        x.move(1, 2);
        due("coming on the text's day", x.judged(2, 7), 3);
        due("behind", x.judged(2, 8), 2);
        due("coming two days ahead of it", x.judged(3, 11), 3);
        due("behind", x.judged(3, 12), 2);
        CountTreaty y = go(twoThings(""), 1990);
        y.move(0, 2);
        due("the last day isn't above 1994 and 30", y.judged(2, 1999), 3);
        CountTreaty z = go(twoThings("tell 5;"), 1990);
        z.move(0, 2);
        due("the last day isn't above 1994 and 5", z.judged(2, 1999), 3);
        CountTreaty w = go(twoThings("tell 4;"), 1990);
        w.move(0, 2);
        due("it is above 1994 and 4", w.judged(2, 1999), 2);
    }

    @Edge(promise = 35, says = "STEP: 4, if it is less than WAIT DAYS behind the thing's STEP ahead.")
    static void stepsWithinTheWait() {
        for (int wait : new int[] {0, 1, 2, 99}) {
            CountTreaty x = twoThings("steps 9 wait " + wait + ";");
            x.step(1);
            due("the first", x.judged(2, 0), 0);
            go(x, Math.max(1, wait));
            x.step(1);
            due("just wait days behind", x.judged(3, x.about(0)), 0);
            CountTreaty y = twoThings("steps 9 wait " + wait + ";");
            y.step(1);
            go(y, Math.max(1, wait - 1));
            y.step(1);
            due("a day less than " + wait, y.judged(3, y.about(0)), wait > 1 ? 4 : 0);
        }
        CountTreaty x = lands(false);
        x.make(3, 0, 1, 1);
        x.make(3, 0, 1, 1);
        with(x, "steps 9 wait 2;", 0);
        x.step(0);
        x.days(1);
        x.step(1);
        due("another thing's step", x.judged(3, 1), 0);
        with(x, "steps 9 wait 1;", 2);
        x.days(1);
        x.step(1);
        due("by the wait of its own day", x.judged(4, 2), 0);
        x.step(0);
        due("two days behind", x.judged(5, 2), 0);
        with(x, "steps 9 wait 3;", 3);
        x.days(1);
        x.step(1);
        due("the step ahead alone counts", x.judged(6, 3), 4);
    }

    @Edge(promise = 35, says = "TOLD: 5, if on the DAY from which it holds the thing was elsewhere (WHERE; on the ROAD is elsewhere; GONE ones told so are right).")
    static void toldElsewhere() {
        CountTreaty x = twoThings("steps 1 wait 0;");
        x.move(0, 1);
        go(x, 4);
        x.step(1);
        x.make(1, 0, 1, 1);
        int[][] told = {{0, 0, 0, 5}, {0, 1, 0, 5}, {0, 1, 1, 5}, {0, 1, 2, 0}, {0, 0, 2, 5}, {0, 1, 4, 0}, {0, -1, 4, 5}, {0, -1, 0, 5},
            {1, 3, 3, 0}, {1, 3, 4, 5}, {1, -1, 4, 0}, {1, -1, 3, 5}, {2, 1, 4, 0}, {2, 1, 3, 5}, {2, -1, 3, 5}};
        int first = x.about(11);
        for (int i = 0; i < told.length; i++) {
            x.tell(told[i][0], told[i][1], told[i][2]);
            due("tell(" + told[i][0] + ", " + told[i][1] + ", " + told[i][2] + ")", x.judged(first + i, 4), told[i][3]);
        }
        x.move(2, 0);
        due("it left later on that day", x.judged(first + 12, 4), 5);
    }

    @Edge(promise = 35, says = "VISIT: 6, if its LAND made VISITS or more in that YEAR ahead of it.")
    static void visitsOfAYear() {
        CountTreaty x = go(with(lands(false), "visits 2;", 0), 358);
        x.visit(1, 0);
        x.visit(0, 4);
        x.visit(1, 1);
        x.visit(0, 4);
        x.visit(1, 0);
        each("two and a third", act -> x.judged(act, 359), 0, 0, 0, 0, 6);
        x.days(1);
        x.visit(1, 0);
        due("a fourth, on the year's last day", x.judged(5, 359), 6);
        x.days(1);
        x.visit(1, 0);
        due("the next year's first day", x.judged(6, 360), 0);
        CountTreaty y = go(with(lands(false), "visits 0;", 0), 1);
        y.visit(1, 0);
        due("none may be", y.judged(0, 1), 6);
        CountTreaty z = go(lands(false), 1);
        for (int i = 0; i < 100; i++) z.visit(1, 0);
        due("without a text: the 99th", z.judged(98, 1), 0);
        due("the hundredth", z.judged(99, 1), 6);
        CountTreaty w = go(with(with(lands(false), "visits 9;", 0), "visits 1;", 2), 1);
        w.visit(1, 0);
        w.visit(1, 0);
        w.days(1);
        w.visit(1, 0);
        each("by the treaty of its own day", act -> w.judged(act, 2), 0, 0, 6);
    }

    @Edge(promise = 35, says = "YEAR of a DAY: DAY / 360.")
    static void yearsAtTheirEnds() {
        for (int year = 0; year < 5; year++) {
            CountTreaty x = go(with(lands(false), "visits 1;", 0), Math.max(1, year * 360));
            x.visit(1, 0);
            go(x, year * 360 + 359);
            x.visit(1, 0);
            x.days(1);
            x.visit(1, 0);
            each("year " + year, act -> x.judged(act, 1999), 0, 6, 0);
        }
    }

    @Edge(promise = 35, says = "QUESTION: 7, if it wasn't ANSWERED within ANSWER DAYS and q is above these; 3, if q isn't yet.")
    static void questionsAnswered() {
        for (int answer : new int[] {0, 1, 360}) {
            Supplier<CountTreaty> asked = () -> {
                CountTreaty x = go(with(lands(false), "answer " + answer + ";", 0), 5);
                x.ask(1, 0);
                return x;
            };
            int last = 5 + answer;
            due("open on its day", asked.get().judged(0, 5), 3);
            due("open on the last day for it", asked.get().judged(0, last), 3);
            due("behind it", asked.get().judged(0, last + 1), 7);
            CountTreaty x = go(asked.get(), last);
            x.answer(0);
            due("answered on the last day for it", x.judged(0, last), 0);
            due("and ever after", x.judged(0, 1999), 0);
            if (answer > 0) due("as known the day ahead", x.judged(0, last - 1), 3);
            CountTreaty y = go(asked.get(), last + 1);
            y.answer(0);
            due("a day too late", y.judged(0, last + 1), 7);
            due("as known the day ahead", y.judged(0, last), 3);
        }
        CountTreaty x = go(with(with(lands(false), "answer 2;", 0), "answer 9;", 6), 5);
        x.ask(1, 0);
        due("by the treaty of its own day", x.judged(0, 8), 7);
        CountTreaty y = go(lands(false), 1969);
        y.ask(1, 0);
        due("the last day isn't above 1969 and 30", y.judged(0, 1999), 3);
        CountTreaty z = go(lands(false), 1968);
        z.ask(1, 0);
        due("it is above 1968 and 30", z.judged(0, 1999), 7);
    }

    @Edge(promise = 35, says = "All others 0.")
    static void allOthersNought() {
        CountTreaty x = twoThings("");
        x.ask(1, 0);
        x.answer(0);
        due("an answer", x.judged(3, 0), 0);
        due("an answered question", x.judged(2, 0), 0);
        go(x, 50);
        x.ask(1, 0);
        go(x, 90);
        x.answer(1);
        due("an answer that is too late", x.judged(5, 90), 0);
    }

    // Promise 36

    /** The lands with, by acts' numbers: 0 to 2 MADE, 3 TOLD wrongly on DAY 1, 4 TOLD rightly and 5 wrongly on DAY 2. */
    private static CountTreaty twoWrong() {
        CountTreaty x = twoThings("");
        x.make(4, 0, 1, 1);
        x.days(1);
        x.tell(0, 1, 1);
        x.days(1);
        x.tell(0, 0, 1);
        x.tell(2, -1, 0);
        return x;
    }

    @Edge(promise = 36, says = "The i-th ACT that is JUDGED as v (1 .. 7) as KNOWN on a DAY (of those of that DAY or ahead).")
    static void theIthThatIsJudgedSo() {
        CountTreaty x = twoWrong();
        each("as known on day 2", i -> x.fails(5, 2, i), 3, 5, -1);
        each("of day 1 or ahead", i -> x.fails(5, 1, i), 3, -1);
        each("of day 0", i -> x.fails(5, 0, i), -1);
        each("as known on the last day", i -> x.fails(5, 1999, i), 3, 5, -1);
        CountTreaty y = with(with(lands(false), "limit 1 from 0 to 0;tell 0;steps 9 wait 9;visits 0;answer 0;", 0), "limit 99 from 0 to 1999;", 1);
        y.make(0, 0, 1, 1);
        y.make(3, 0, 1, 1);
        y.days(1);
        y.step(1);
        y.days(1);
        y.step(1);
        y.move(0, 1);
        y.tell(0, 1, 2);
        y.visit(1, 0);
        y.ask(1, 0);
        int[][] due = {{}, {0, 1}, {4}, {}, {3}, {5}, {6}, {7}};
        for (int v = 1; v < 8; v++) {
            for (int i = 0; i <= due[v].length; i++) due("fails(" + v + ", 5, " + i + ")", y.fails(v, 5, i), i < due[v].length ? due[v][i] : -1);
        }
        each("those that are open", i -> y.fails(3, 2, i), 4, 7, -1);
        CountTreaty z = twoThings("limit 1 from 0 to 0;");
        each("more than the limit", i -> z.fails(1, 0, i), 0, 1, -1);
        with(z, "limit 2 from 0 to 0;", 0);
        each("by the text that was read later", i -> z.fails(1, 0, i), -1);
    }

    @Edge(promise = 36, says = "NONE if there is none such, and for others.")
    static void noSuchFail() {
        for (int v = 1; v < 8; v++) none("without acts", lands(false).fails(v, 0, 0));
        CountTreaty x = twoWrong();
        none("none such", x.fails(5, 2, 2), x.fails(5, 2, FAR), x.fails(4, 2, 0));
        none("below 0", x.fails(5, 2, -1), x.fails(5, 2, LOW));
        none("v", x.fails(0, 2, 0), x.fails(8, 2, 0), x.fails(-1, 2, 0), x.fails(FAR, 2, 0), x.fails(LOW, 2, 0));
        none("days", x.fails(5, -1, 0), x.fails(5, 2000, 0), x.fails(5, LOW, 0), x.fails(5, FAR, 0));
        due("the last of all", x.fails(5, 1999, 1), 5);
    }

    // Promise 37

    @Edge(promise = 37, says = "A CHANCE: true.")
    static void chancesAtTheirEnds() {
        CountTreaty x = lands(false);
        yes("the least", x.chance(0, 1));
        yes("the greatest", x.chance(5, 50));
        each("about(20) ..", i -> x.about(20 + i), 1, 10, 10, 10, 10, 50, -1);
        yes("once more", x.chance(0, 50));
        due("about(20)", x.about(20), 50);
    }

    @Edge(promise = 37, says = "False for others.")
    static void chancesThatCantBe() {
        CountTreaty x = lands(false);
        for (int v : new int[] {0, 51, -1, FAR, LOW}) no("chance " + v, x.chance(0, v));
        for (int site : new int[] {-1, 6, 10, FAR, LOW}) no("site " + site, x.chance(site, 5));
        each("they are as they were", i -> x.about(20 + i), 10, 10, 10, 10, 10, 10, -1);
        Looks.refused("chance(0, 51)", () -> lands(false), y -> y.chance(0, 51) ? 1 : 0, 0);
        Looks.refused("chance(6, 5)", () -> lands(false), y -> y.chance(6, 5) ? 1 : 0, 0);
    }

    @Edge(promise = 37, says = "CHANCES of SITES (1 .. 50 hundredths that a VISIT there sees a cheat; at first 10).")
    static void chancesAtFirst() {
        CountTreaty x = lands(false);
        value(x, 1, 1, 10, 1);
        x.chance(0, 20);
        value(x, 1, 1, 20, 1);
        due("a site that comes later", x.site(0, 0, false, false), 6);
        value(x, 64, 1, 10, 1);
    }

    // Promise 38

    @Edge(promise = 38, says = "VALUE of a set (bits) with q VISITS: the upper number (lower false), the lower one.")
    static void valuesOfSets() {
        CountTreaty x = chances(20, 30, 10, 50, 1, 49, 47, 43, 41, 37);
        value(x, 1, 1, 20, 1);
        value(x, 512, 1, 37, 1);
        value(x, 3, 1, 12, 1);
        value(x, 7, 1, 60, 11);
        value(x, 16, 1, 1, 1);
        value(x, 17, 1, 20, 21);
        value(x, 17, 2, 1, 1);
        value(x, 992, 1, 150226993, 17480089);
        value(x, 992, 5, 37, 1);
    }

    @Edge(promise = 38, says = "NONE for others.")
    static void valuesOfNothing() {
        CountTreaty x = chances(20, 30, 10, 50, 1, 49);
        none("an empty set", x.value(0, 1, false), x.value(0, 0, false));
        none("sites that aren't there", x.value(64, 1, false), x.value(65, 1, true), x.value(1 << 30, 1, false), x.value(FAR, 1, false));
        none("below 0", x.value(-1, 1, false), x.value(LOW, 1, false), x.value(LOW + 1, 1, false));
        none("six sites", x.value(63, 1, false), x.value(63, 6, true));
        none("no visits", x.value(3, 0, false), x.value(3, -1, false), x.value(3, LOW, false));
        none("more visits than sites", x.value(3, 3, false), x.value(1, 2, false), x.value(31, 6, false), x.value(3, FAR, true));
        due("five sites", x.value(62, 5, false), 1);
        due("one site", x.value(32, 1, false), 49);
        due("as many visits", x.value(3, 2, false), 20);
    }

    @Edge(promise = 38, says = "A set of 1 to 5 SITES, q VISITS (1 to as many): SHARES: for each SITE how likely it is visited, 0 to 1, together q; the least of SHARE * CHANCE is as great as can be: VALUE (a fraction in lowest terms, of hundredths).")
    static void noShareIsAboveOne() {
        CountTreaty x = chances(30, 15, 10, 30, 30);
        value(x, 7, 1, 5, 1);
        value(x, 7, 2, 10, 1);
        value(x, 7, 3, 10, 1);
        CountTreaty y = chances(20, 20, 11, 50, 50);
        value(y, 7, 1, 110, 21);
        value(y, 7, 2, 220, 21);
        value(y, 7, 3, 11, 1);
        CountTreaty z = chances(50, 50, 50, 50, 50);
        value(z, 31, 1, 10, 1);
        value(z, 31, 5, 50, 1);
        CountTreaty w = chances(1, 1, 1, 1, 1);
        value(w, 31, 1, 1, 5);
        value(w, 31, 4, 4, 5);
        value(w, 31, 5, 1, 1);
    }

    // Promise 39

    @Edge(promise = 39, says = "SHARE of a SITE likewise.")
    static void sharesAtTheirEnds() {
        CountTreaty x = chances(20, 30, 10);
        share(x, 3, 1, 0, 3, 5);
        share(x, 3, 1, 1, 2, 5);
        share(x, 7, 1, 2, 6, 11);
        share(x, 1, 1, 0, 1, 1);
        share(x, 4, 1, 2, 1, 1);
        CountTreaty y = chances(1, 50);
        share(y, 3, 1, 0, 50, 51);
        share(y, 3, 1, 1, 1, 51);
    }

    @Edge(promise = 39, says = "NONE for others, and a SITE that isn't in it.")
    static void sharesOfNothing() {
        CountTreaty x = chances(20, 30, 10, 50, 1, 49);
        none("a site that isn't in it", x.share(3, 1, 2, false), x.share(2, 1, 0, true), x.share(62, 1, 0, false));
        none("no such site", x.share(3, 1, -1, false), x.share(3, 1, 6, false), x.share(3, 1, FAR, false), x.share(3, 1, LOW, false));
        none("a number of 32 or 33, of which the last bits are a site's", x.share(3, 1, 32, false), x.share(3, 1, 33, false), x.share(3, 1, -31, false));
        none("sets", x.share(0, 1, 0, false), x.share(63, 1, 0, false), x.share(65, 1, 0, false), x.share(-1, 1, 0, false), x.share(LOW, 1, 0, false));
        none("visits", x.share(3, 0, 0, false), x.share(3, 3, 0, false), x.share(3, -1, 0, false), x.share(3, FAR, 0, false));
        due("the last of all", x.share(62, 5, 5, true), 49);
    }

    @Edge(promise = 39, says = "SHARE of a SITE: VALUE / CHANCE (what is over lies anywhere).")
    static void whatIsOverLiesAnywhere() {
        CountTreaty x = chances(20, 30, 10);
        share(x, 3, 2, 0, 1, 1);
        share(x, 3, 2, 1, 2, 3);
        share(x, 7, 3, 0, 1, 2);
        share(x, 7, 3, 1, 1, 3);
        share(x, 7, 3, 2, 1, 1);
    }

    // Promise 40

    @Edge(promise = 40, says = "The bound that ROWS PROVE (weights of the set's SITES by numbers; further ones don't count) against VALUE: 0 they are a PROOF, 1 it is above.")
    static void furtherWeightsDontCount() {
        CountTreaty x = chances(20, 30, 10, 15, 50);
        due("two of two", x.proof(3, 1, 3, 2, 0, 0, 0), 0);
        due("further ones", x.proof(3, 1, 3, 2, 1000, -1, FAR), 0);
        due("further ones far below", x.proof(3, 1, 3, 2, LOW, LOW, LOW), 0);
        due("of one site any weight", x.proof(4, 1, 1, -1, -1, -1, -1), 0);
        due("of one site any weight", x.proof(16, 1, 999, 0, 0, 0, 0), 0);
        due("by the set's numbers, not the sites'", x.proof(10, 1, 1, 2, 0, 0, 0), 0);
        due("turned", x.proof(10, 1, 2, 1, 0, 0, 0), 1);
        due("five of five", x.proof(31, 1, 15, 10, 30, 20, 6), 0);
        due("the fifth a little more", x.proof(31, 1, 15, 10, 30, 20, 7), 1);
        due("the fifth a little less", x.proof(31, 1, 15, 10, 30, 20, 5), 1);
    }

    @Edge(promise = 40, says = "NONE for others.")
    static void proofsOfNothing() {
        CountTreaty x = chances(20, 30, 10, 15, 50, 9);
        none("weights below 0", x.proof(3, 1, -1, 5, 0, 0, 0), x.proof(3, 1, 5, -1, 0, 0, 0), x.proof(3, 1, LOW, 5, 0, 0, 0), x.proof(31, 1, 1, 1, 1, 1, -1));
        none("weights above 999", x.proof(3, 1, 1000, 5, 0, 0, 0), x.proof(3, 1, 5, 1000, 0, 0, 0), x.proof(3, 1, FAR, 5, 0, 0, 0), x.proof(31, 1, 1, 1, 1, 1, 1000));
        none("all of them 0", x.proof(3, 1, 0, 0, 0, 0, 0), x.proof(3, 1, 0, 0, 1, 1, 1), x.proof(31, 5, 0, 0, 0, 0, 0));
        none("sets", x.proof(0, 1, 1, 1, 1, 1, 1), x.proof(63, 1, 1, 1, 1, 1, 1), x.proof(64, 1, 1, 1, 1, 1, 1), x.proof(-1, 1, 1, 1, 1, 1, 1), x.proof(LOW, 1, 1, 1, 1, 1, 1));
        none("visits", x.proof(3, 0, 1, 1, 1, 1, 1), x.proof(3, 3, 1, 1, 1, 1, 1), x.proof(3, -1, 1, 1, 1, 1, 1), x.proof(3, FAR, 1, 1, 1, 1, 1));
        due("the greatest weights", x.proof(31, 5, 999, 999, 999, 999, 999), 1);
        due("a single one", x.proof(31, 5, 0, 0, 1, 0, 0), 0);
        due("as many visits", x.proof(3, 2, 1, 0, 0, 0, 0), 0);
    }

    @Edge(promise = 40, says = "ROWS: a weight (0 .. 999) for each SITE of the set, not all 0: they PROVE a bound: the q greatest of weight * CHANCE together / all weights together: no SHARES have a greater least.")
    static void theQGreatestTogether() {
        CountTreaty x = chances(20, 30, 11);
        due("one visit: 33 : 22 : 60", x.proof(7, 1, 33, 22, 60, 0, 0), 0);
        due("one less", x.proof(7, 1, 33, 22, 59, 0, 0), 1);
        due("the greatest weights", x.proof(3, 1, 999, 666, 0, 0, 0), 0);
        due("one less", x.proof(3, 1, 998, 666, 0, 0, 0), 1);
        due("two visits: 11 is the least", x.proof(7, 2, 0, 0, 1, 0, 0), 0);
        due("two visits: 1320 / 115 is above 11", x.proof(7, 2, 33, 22, 60, 0, 0), 1);
        due("three visits: all together", x.proof(7, 3, 0, 0, 7, 0, 0), 0);
        due("three visits: a weight elsewhere", x.proof(7, 3, 1, 0, 999, 0, 0), 1);
    }

    @Edge(promise = 40, says = "They are a PROOF if it is VALUE.")
    static void aProofIfItIsTheValue() {
        CountTreaty x = chances(49, 47, 43, 41, 37);
        due("weights by 600 / chance", x.proof(31, 1, 12, 12, 13, 14, 16), 1);
        CountTreaty y = chances(10, 10, 10, 10, 10);
        for (int q = 1; q < 6; q++) due("like ones", y.proof(31, q, 9, 9, 9, 9, 9), 0);
        due("unlike weights", y.proof(31, 1, 9, 9, 9, 9, 8), 1);
        due("as many visits as sites: any weights", y.proof(31, 5, 9, 0, 1, 999, 8), 0);
    }

    // Promise 41

    @Edge(promise = 41, says = "WATCHED: how many there are.")
    static void watchedAreCounted() {
        CountTreaty x = go(lands(false), 5);
        due("the clock's day", x.watch(0, 5), 1);
        due("the last day", x.watch(0, 1999), 2);
        due("a covered site", x.watch(5, 5), 3);
        due("about(14)", x.about(14), 3);
    }

    @Edge(promise = 41, says = "NONE for others (ahead of the clock's DAY),")
    static void watchedAheadOfTheClock() {
        CountTreaty x = go(lands(false), 5);
        none("ahead of the clock's", x.watch(0, 4), x.watch(0, 0), x.watch(0, -1), x.watch(0, LOW));
        none("beyond the last", x.watch(0, 2000), x.watch(0, FAR));
        none("no such site", x.watch(-1, 5), x.watch(6, 5), x.watch(FAR, 5), x.watch(LOW, 5));
        due("about(14)", x.about(14), 0);
        Looks.refused("watch(0, 4)", () -> go(twoThings(""), 5), y -> y.watch(0, 4));
        Looks.refused("watch(6, 5)", () -> go(twoThings(""), 5), y -> y.watch(6, 5));
        Looks.refused("watch(0, 2000)", () -> go(twoThings(""), 5), y -> y.watch(0, 2000));
    }

    @Edge(promise = 41, says = "if it is told,")
    static void watchedOnesThatAreTold() {
        Supplier<CountTreaty> made = () -> {
            CountTreaty x = twoThings("");
            due("watch", x.watch(0, 5), 1);
            return x;
        };
        CountTreaty x = made.get();
        none("told", x.watch(0, 5));
        due("the day ahead", x.watch(0, 4), 2);
        due("the day behind", x.watch(0, 6), 3);
        due("the next site", x.watch(1, 5), 4);
        Looks.refused("watch(0, 5)", made, y -> y.watch(0, 5));
    }

    private static CountTreaty sixtyWatched() {
        CountTreaty x = twoThings("");
        for (int i = 1; i <= 60; i++) due("watch", x.watch(i % 2, i / 2), i);
        return x;
    }

    @Edge(promise = 41, says = "or there are 60.")
    static void theSixtyFirstWatched() {
        CountTreaty x = sixtyWatched();
        none("the 61st", x.watch(3, 0), x.watch(0, 1999));
        due("about(14)", x.about(14), 60);
        go(x, 100);
        none("those that are over make no room", x.watch(3, 100));
        Looks.refused("the 61st", JudgingEdges::sixtyWatched, y -> y.watch(3, 0));
    }

    // Promise 42

    /** Things 0 (just SEEN) and 1 (one below) at SITE 0; each could go to SITES 1, 2, 3. */
    private static CountTreaty seenAndBelow() {
        CountTreaty x = lands(false);
        x.make(0, 0, 40, 1);
        x.make(0, 0, 39, 1);
        return x;
    }

    @Edge(promise = 42, says = "How many are UNSEEN.")
    static void howManyAreUnseen() {
        CountTreaty x = seenAndBelow();
        due("two things, three sites, one day", x.unseen(0, 1), 6);
        due("thirty days", x.unseen(0, 30), 180);
        due("the other land has no things", x.unseen(1, 30), 0);
        CountTreaty y = new CountTreaty();
        for (int i = 0; i < 10; i++) y.site(1, 0, false, false);
        for (int i = 0; i < 9; i++) y.road(i, i + 1, 60);
        for (int i = 0; i < 40; i++) y.make(i % 10, 0, 200, 1);
        due("forty things, nine sites, thirty days", y.unseen(1, 30), 10800);
        due("the last of them", y.trick(1, 30, 10799, 0), 39);
    }

    @Edge(promise = 42, says = "NONE for others.")
    static void unseenOfNothing() {
        CountTreaty x = seenAndBelow();
        none("lands", x.unseen(-1, 1), x.unseen(2, 1), x.unseen(FAR, 1), x.unseen(LOW, 1));
        none("days", x.unseen(0, 0), x.unseen(0, 31), x.unseen(0, -1), x.unseen(0, FAR), x.unseen(0, LOW));
        each("without sites", land -> new CountTreaty().unseen(land, 1), 0, 0, -1);
        each("without things", land -> lands(false).unseen(land, 30), 0, 0, -1);
    }

    @Edge(promise = 42, says = "a thing that is at a SITE now, another SITE of its LAND with a WAY,")
    static void atASiteNowToAnotherOneWithAWay() {
        CountTreaty x = seenAndBelow();
        x.site(0, 0, false, false);
        due("a site without a way", x.unseen(0, 1), 6);
        x.move(0, 1);
        due("one is on the road", x.unseen(0, 1), 3);
        x.days(1);
        due("it still is", x.unseen(0, 1), 3);
        x.days(1);
        due("it came", x.unseen(0, 1), 6);
        x.road(6, 0, 60);
        due("a way", x.unseen(0, 1), 8);
        CountTreaty y = with(lands(false), "steps 1 wait 0;", 0);
        y.make(3, 0, 1, 1);
        due("there", y.unseen(0, 1), 3);
        y.step(0);
        due("gone", y.unseen(0, 1), 0);
    }

    @Edge(promise = 42, says = "a DAY from the clock's to n - 1 behind it (n 1 .. 30):")
    static void daysFromTheClocks() {
        CountTreaty x = go(seenAndBelow(), 7);
        for (int n = 1; n <= 30; n++) {
            due("n " + n, x.unseen(0, n), 6 * n);
            due("the first day", x.trick(0, n, 0, 2), 7);
            due("the last day", x.trick(0, n, n - 1, 2), 6 + n);
        }
        go(x, 1970);
        due("to the last day", x.unseen(0, 30), 180);
        x.days(1);
        due("there are no days behind it", x.unseen(0, 30), 174);
        go(x, 1999);
        due("the last day alone", x.unseen(0, 30), 6);
        due("the last day alone", x.unseen(0, 1), 6);
    }

    @Edge(promise = 42, says = "neither SITE has a PORTAL or a whole SEAL,")
    static void portalsAndSeals() {
        due("portals everywhere", atPortals(true).unseen(0, 1), 0);
        due("none", atPortals(false).unseen(0, 1), 3);
        CountTreaty x = seenAndBelow();
        x.site(0, 0, true, false);
        x.road(6, 0, 1);
        due("not to the portal's", x.unseen(0, 1), 6);
        x.make(6, 0, 1, 1);
        due("nor from there", x.unseen(0, 1), 6);
        x.seal(1);
        due("not to the sealed one", x.unseen(0, 1), 4);
        x.seal(0);
        due("nor from a sealed one", x.unseen(0, 1), 0);
        x.days(1);
        x.move(0, 2);
        due("the seal there is broken: one thing to two sites", x.unseen(0, 1), 2);
        x.seal(2);
        due("the site to which it goes is sealed", x.unseen(0, 1), 1);
        x.days(4);
        due("it came and broke that: two things to two sites", x.unseen(0, 1), 4);
    }

    private static CountTreaty atPortals(boolean portals) {
        CountTreaty x = lands(portals);
        x.make(0, 0, 1, 1);
        return x;
    }

    @Edge(promise = 42, says = "and on that DAY neither is WATCHED;")
    static void neitherIsWatched() {
        CountTreaty x = lands(false);
        x.make(0, 0, 200, 1);
        x.watch(0, 1);
        each("the site that it leaves, on day 1", n -> x.unseen(0, n + 1), 3, 3, 6);
        x.watch(2, 0);
        each("the site to which it goes, on day 0", n -> x.unseen(0, n + 1), 2, 2, 5);
        x.watch(2, 1);
        each("both", n -> x.unseen(0, n + 1), 2, 2, 5);
        x.watch(2, 29);
        due("the last of thirty", x.unseen(0, 30), 85);
        x.watch(2, 30);
        due("the day behind it", x.unseen(0, 30), 85);
        x.days(1);
        due("a day later it is one of them", x.unseen(0, 30), 85);
        x.watch(4, 1);
        due("the other land's", x.unseen(0, 30), 85);
        CountTreaty y = new CountTreaty();
        y.site(0, 0, false, false);
        y.site(0, 0, false, false);
        y.road(0, 1, 1);
        y.make(0, 0, 200, 1);
        y.watch(0, 30);
        due("beyond the thirty, of the first site", y.unseen(0, 30), 30);
        y.watch(1, 29);
        due("the thirtieth of the second", y.unseen(0, 30), 29);
    }

    @Edge(promise = 42, says = "but a thing below SEEN isn't seen by watching, nor any at a COVERED SITE.")
    static void belowSeenOrCovered() {
        CountTreaty x = seenAndBelow();
        x.watch(0, 0);
        due("one is just seen, one is below", x.unseen(0, 1), 3);
        due("that is thing 1", x.trick(0, 1, 0, 0), 1);
        CountTreaty y = lands(false);
        y.make(5, 0, 200, 1);
        y.watch(5, 0);
        due("at a covered one", y.unseen(1, 1), 1);
        y.watch(4, 0);
        due("but at the other one", y.unseen(1, 1), 0);
        CountTreaty z = lands(false);
        z.rules(0, 0, 1);
        z.make(0, 0, 1, 1);
        z.watch(0, 0);
        due("the least that can be seen", z.unseen(0, 1), 0);
        CountTreaty w = lands(false);
        w.rules(0, 0, 200);
        w.make(0, 0, 199, 1);
        w.make(0, 0, 200, 1);
        w.watch(0, 0);
        due("the greatest alone is seen", w.unseen(0, 1), 3);
    }

    @Edge(promise = 42, says = "WATCHED: a DAY of a SITE that was told so (60 at most), without CLOUDS there then (60 at most).")
    static void withoutCloudsThereThen() {
        CountTreaty x = lands(false);
        x.make(0, 0, 200, 1);
        x.cloud(0, 1);
        x.watch(0, 0);
        x.watch(0, 1);
        x.watch(0, 2);
        each("clouds on day 1", n -> x.unseen(0, n + 1), 0, 3, 3);
        x.cloud(1, 0);
        each("elsewhere", n -> x.unseen(0, n + 1), 0, 3, 3);
        x.cloud(0, 0);
        each("told behind the watching", n -> x.unseen(0, n + 1), 3, 6, 6);
    }

    // Promise 43

    @Edge(promise = 43, says = "Of the i-th that is UNSEEN: 0 the thing, 1 the SITE, 2 the DAY.")
    static void theIthThatIsUnseen() {
        CountTreaty x = go(lands(false), 3);
        x.make(1, 0, 200, 1);
        x.make(5, 0, 200, 1);
        x.make(1, 0, 1, 1);
        x.watch(2, 4);
        int[][] due = {{0, 0, 3}, {0, 0, 4}, {0, 2, 3}, {0, 3, 3}, {0, 3, 4}, {2, 0, 3}, {2, 0, 4}, {2, 2, 3}, {2, 2, 4}, {2, 3, 3}, {2, 3, 4}};
        due("unseen", x.unseen(0, 2), due.length);
        for (int i = 0; i < due.length; i++) {
            for (int what = 0; what < 3; what++) due("trick(" + i + ", " + what + ")", x.trick(0, 2, i, what), due[i][what]);
        }
        each("the other land's", what -> x.trick(1, 1, 0, what), 1, 4, 3);
    }

    @Edge(promise = 43, says = "NONE if there is none such, and for others.")
    static void noSuchTrick() {
        none("without sites", new CountTreaty().trick(0, 1, 0, 0));
        CountTreaty x = seenAndBelow();
        due("the last one", x.trick(0, 30, 179, 2), 29);
        none("none such", x.trick(0, 30, 180, 0), x.trick(0, 1, 6, 0), x.trick(0, 1, FAR, 0), x.trick(1, 30, 0, 0));
        none("below 0", x.trick(0, 1, -1, 0), x.trick(0, 1, LOW, 0));
        none("nothing such", x.trick(0, 1, 0, -1), x.trick(0, 1, 0, 3), x.trick(0, 1, 0, FAR), x.trick(0, 1, 0, LOW));
        none("lands", x.trick(-1, 1, 0, 0), x.trick(2, 1, 0, 0), x.trick(FAR, 1, 0, 0));
        none("days", x.trick(0, 0, 0, 0), x.trick(0, 31, 0, 0), x.trick(0, -1, 0, 0), x.trick(0, FAR, 0, 0), x.trick(0, LOW, 0, 0));
    }

    @Edge(promise = 43, says = "UNSEEN: all (thing, SITE, DAY) by things, SITES, DAYS:")
    static void byThingsSitesDays() {
        CountTreaty x = new CountTreaty();
        for (int i = 0; i < 3; i++) x.site(0, 0, false, false);
        x.road(2, 0, 1);
        x.road(1, 0, 9);
        for (int i = 0; i < 3; i++) x.make(2 - i, 0, 1, 1);
        int i = 0;
        for (int thing = 0; thing < 3; thing++) {
            for (int site = 0; site < 3; site++) {
                for (int day = 0; day < 30 && site != 2 - thing; day++) {
                    due("thing of " + i, x.trick(0, 30, i, 0), thing);
                    due("site of " + i, x.trick(0, 30, i, 1), site);
                    if (day % 29 == 0) due("day of " + i, x.trick(0, 30, i, 2), day);
                    i++;
                }
            }
        }
        due("unseen", x.unseen(0, 30), i);
    }

    // Promise 44

    /** All kinds of rows, one of each at least. */
    private static CountTreaty full() {
        CountTreaty x = lands(true);
        x.sort(0, 5, 60, 5, 60);
        x.rules(1, 1, 30);
        x.make(0, 0, 50, 50);
        x.make(3, 0, 50, 50);
        x.chance(0, 33);
        with(x, "tell 4;steps 2 wait 1;", 0);
        x.days(1);
        x.step(1);
        x.move(0, 1);
        x.tell(0, 0, 0);
        x.seal(2);
        x.visit(1, 0);
        x.picture(0);
        x.ask(1, 0);
        x.cloud(0, 9);
        x.watch(0, 9);
        return x;
    }

    /** Each kind of act once more. */
    private static void goOn(CountTreaty x) {
        x.days(2);
        x.site(0, 1, true, false);
        x.road(0, 6, 1);
        x.make(1, 0, 50, 50);
        x.step(1);
        x.move(0, 0);
        x.tell(0, 1, 3);
        x.seal(0);
        x.visit(1, 1);
        x.picture(1);
        x.answer(0);
        x.ask(1, 1);
        x.cloud(1, 9);
        x.watch(1, 9);
        x.chance(0, 44);
        with(x, "tell 5;", 3);
    }

    @Edge(promise = 44, says = "THE IMAGE is as all is now: the clock.")
    static void theImageIsAsAllIsNow() {
        CountTreaty x = lands(false);
        due("on day 0", x.image(), 0);
        go(x, 1999);
        due("on the last day", x.image(), 1999);
        due("back to it", x.back(), 1999);
        Looks.same("image() changes nothing but the image", () -> {
            CountTreaty y = full();
            y.image();
            return y;
        }, () -> {
            CountTreaty y = full();
            due("image", y.image(), 1);
            due("image", y.image(), 1);
            return y;
        });
        Looks.same("the later image", () -> {
            CountTreaty y = full();
            goOn(y);
            y.image();
            return y;
        }, () -> {
            CountTreaty y = full();
            y.image();
            goOn(y);
            due("image", y.image(), 3);
            due("back", y.back(), 3);
            return y;
        });
    }

    // Promise 45

    @Edge(promise = 45, says = "BACK to THE IMAGE (it stays; the tape and the latest FAULT are as they are): the clock.")
    static void backToTheImage() {
        Looks.same("back() behind each kind of act", () -> {
            CountTreaty x = full();
            x.image();
            with(x, "", 1);
            x.back();
            return x;
        }, () -> {
            CountTreaty x = full();
            x.image();
            goOn(x);
            due("back", x.back(), 1);
            return x;
        });
        Looks.same("it stays", () -> {
            CountTreaty x = full();
            x.image();
            return x;
        }, () -> {
            CountTreaty x = full();
            x.image();
            goOn(x);
            x.back();
            goOn(x);
            due("back", x.back(), 1);
            return x;
        });
    }

    @Edge(promise = 45, says = "(it stays; the tape and the latest FAULT are as they are)")
    static void theTapeAndTheFaultAreAsTheyAre() {
        CountTreaty x = lands(false);
        type(x, "tell 1;");
        x.image();
        none("a fault", read(x, "tell 361;", 0));
        type(x, "tell 22;");
        due("back", x.back(), 0);
        due("the tape", x.about(12), 8);
        each("the fault", what -> x.fault(what), 2, 5);
        due("a text", x.text(0), 0);
        due("of the tape", x.says(0, 1), 22);
        each("without a fault", what -> x.fault(what), 0, -1);
        due("back", x.back(), 0);
        due("no text", x.about(6), 0);
        due("an empty tape", x.about(12), 0);
        each("the fault of the latest that was read stays", what -> x.fault(what), 0, -1);
        due("so the next one is text 0", read(x, "", 0), 0);
    }

    @Edge(promise = 45, says = "BACK to THE IMAGE (it stays;")
    static void backToSpansAndRules() {
        int[][] things = {{20, 20}, {21, 20}, {20, 21}, {30, 30}};
        int[] leaving = {0, 1, 1, 1};
        for (int i = 0; i < things.length; i++) {
            CountTreaty x = known();
            x.sort(0, 10, 20, 10, 20);
            x.rules(0, 0, 100);
            x.image();
            yes("spans", x.sort(0, 1, 200, 1, 500));
            yes("spans", x.sort(1, 1, 200, 1, 500));
            yes("rules", x.rules(50, 50, 1));
            due("back", x.back(), 0);
            due("seen", x.about(15), 100);
            x.make(0, 0, things[i][0], things[i][1]);
            x.days(1);
            x.visit(1, 0);
            x.move(0, 1);
            span("by the spans and rules of the image", x, 0, 0, 1, 1, leaving[i], leaving[i]);
        }
    }

    @Edge(promise = 45, says = "BACK to THE IMAGE")
    static void backFromFullTables() {
        CountTreaty x = lands(false);
        x.image();
        for (int round = 0; round < 2; round++) {
            for (int i = 0; i < 40; i++) due("make", x.make(i % 6, 3, 200, 500), i);
            for (int i = 0; i < 60; i++) due("cloud", x.cloud(i % 6, i), i + 1);
            for (int i = 4; i < 30; i++) due("road", x.road(0, 1, 1), i);
            for (int i = 6; i < 10; i++) due("site", x.site(0, 0, true, true), i);
            none("they are full", x.make(0, 0, 1, 1), x.cloud(5, 99), x.road(0, 1, 1), x.site(0, 0, true, true));
            due("back", x.back(), 0);
            each("about", what -> x.about(what), 0, 6, 4, 0, 0);
            due("the way", x.way(0, 1), 2);
        }
    }

    @Edge(promise = 45, says = "BACK to THE IMAGE")
    static void nothingIsLeftBehind() {
        CountTreaty x = full();
        x.image();
        goOn(x);
        due("back", x.back(), 1);
        for (int what = 0; what < 7; what++) {
            none("a thing", x.thing(2, what));
            none("a visit", x.saw(1, what));
        }
        for (int what = 0; what < 4; what++) none("an act", x.act(x.about(11), what));
        none("the others", x.whole(1, 1), x.whole(1, 1999), x.where(2, 3), x.judged(x.about(11), 3), x.about(26), x.way(6, 6), x.way(0, 6), x.told(2, 1, 1), x.counts(2, 0, 1));
        no("a question", x.answer(1));
        no("a site", x.chance(6, 10));
        due("the texts", x.says(1999, 1), 4);
        due("clouds can be told", x.cloud(1, 9), 2);
        due("watched ones can be told", x.watch(1, 9), 2);
    }

    @Edge(promise = 45, says = "BACK to THE IMAGE (it stays; the tape and the latest FAULT are as they are)")
    static void backFromLongTexts() {
        CountTreaty x = with(twoThings(""), "counts land=1;", 0);
        x.image();
        for (int i = 0; i < 18; i++) {
            String last = i % 2 == 0 ? "1=1;" : "1=2;";
            due("text", read(x, "counts " + "1=2or".repeat(57) + last, 0), 2 + i % 6);
            due("by its last ask", x.counts(0, 0, 0), 1 - i % 2);
            if (i % 6 == 5) x.back();
        }
        due("by the image's", x.counts(0, 0, 0), 0);
    }

    // Promise 46

    @Edge(promise = 46, says = "0 the clock, 1 SITES, 2 ROADS, 3 things, 4 MOVES, 5 SEALS, 6 TEXTS, 7 TOLD ones, 8 VISITS, 9 PICTURES, 10 QUESTIONS, 11 ACTS, 12 bytes of the tape, 13 CLOUDS, 14 WATCHED ones, 15 SEEN, 20 + site: its CHANCE.")
    static void whatThereIs() {
        CountTreaty x = full();
        goOn(x);
        x.visit(1, 1);
        x.feed(0, 0, 0, 0, 0);
        each("about", what -> x.about(what), 3, 7, 5, 3, 2, 2, 2, 2, 3, 2, 2, 15, 20, 2, 2, 30);
        each("chances", site -> x.about(20 + site), 44, 10, 10, 10, 10, 10, 10, -1, -1, -1, -1);
        CountTreaty y = chances(1, 2, 3, 4, 5, 6, 7, 8, 9, 50);
        each("of ten", site -> y.about(20 + site), 1, 2, 3, 4, 5, 6, 7, 8, 9, 50, -1);
    }

    @Edge(promise = 46, says = "NONE for others.")
    static void nothingSuchIs() {
        CountTreaty x = full();
        none("between", x.about(16), x.about(17), x.about(18), x.about(19));
        none("below, above", x.about(-1), x.about(26), x.about(29), x.about(30), x.about(120));
        none("far off", x.about(FAR), x.about(LOW), x.about(LOW + 20), x.about(LOW + 19));
        due("the last site's", x.about(25), 10);
        due("the last but those", x.about(15), 30);
        for (int i = 0; i < 10; i++) none("without sites", new CountTreaty().about(20 + i));
    }
}
