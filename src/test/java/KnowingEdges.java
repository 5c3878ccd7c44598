import java.util.function.Supplier;

/** Edges of the promises 22 to 33, and of the terms under III: what is TOLD, seen, POSSIBLE, DOUBTED, asked. */
final class KnowingEdges extends Dues {
    /** The lands on DAY 5 with things 0 and 1 (SORTS 0 and 1) at SITE 0, 2 (SORT 2) at SITE 4. */
    private static CountTreaty dayFive() {
        CountTreaty x = lands(false);
        x.make(0, 0, 39, 10);
        x.make(0, 1, 40, 20);
        x.make(4, 2, 41, 30);
        return go(x, 5);
    }

    // Promise 22

    @Edge(promise = 22, says = "TOLD: its number.")
    static void toldOnesAreNumberedFromNought() {
        CountTreaty x = dayFive();
        due("tell", x.tell(0, 0, 5), 0);
        none("a refused one takes no number", x.tell(0, 0, 6));
        due("the same once more", x.tell(0, 0, 5), 1);
        due("gone", x.tell(2, -1, 0), 2);
        due("about(7)", x.about(7), 3);
    }

    @Edge(promise = 22, says = "NONE: others (site NONE: GONE),")
    static void toldOfNothing() {
        CountTreaty x = dayFive();
        none("no such thing", x.tell(-1, 0, 0), x.tell(3, 0, 0), x.tell(FAR, 0, 0), x.tell(LOW, 0, 0), x.tell(3, -1, 0), x.tell(-1, -1, 0));
        none("no such site", x.tell(0, -2, 0), x.tell(0, 6, 0), x.tell(0, 100, 0), x.tell(0, 101, 0), x.tell(0, FAR, 0), x.tell(0, LOW, 0));
        none("the other land's", x.tell(0, 4, 0), x.tell(0, 5, 0), x.tell(2, 3, 0));
        due("none was told", x.about(7), 0);
        due("the land's last site", x.tell(0, 3, 0), 0);
        due("the other land's own", x.tell(2, 5, 0), 1);
        due("gone", x.tell(0, -1, 0), 2);
        due("gone", x.told(0, 0, 5), 101);
        Looks.refused("tell(0, 4, 0)", KnowingEdges::dayFive, y -> y.tell(0, 4, 0));
        Looks.refused("tell(0, -2, 0)", KnowingEdges::dayFive, y -> y.tell(0, -2, 0));
        Looks.refused("tell(3, -1, 0)", KnowingEdges::dayFive, y -> y.tell(3, -1, 0));
    }

    @Edge(promise = 22, says = "the DAY is behind the clock's,")
    static void toldFromADayBehindTheClocks() {
        CountTreaty x = dayFive();
        none("behind", x.tell(0, 0, 6), x.tell(0, -1, 6), x.tell(0, 0, 1999), x.tell(0, 0, 2000), x.tell(0, 0, FAR));
        none("below 0", x.tell(0, 0, -1), x.tell(0, -1, LOW));
        due("the clock's", x.tell(0, 0, 5), 0);
        due("day 0", x.tell(0, 0, 0), 1);
        CountTreaty z = go(lands(false), 3);
        z.make(1, 0, 1, 1);
        due("ahead of its making, too", z.tell(0, 1, 0), 0);
        Looks.refused("tell(0, 0, 6)", KnowingEdges::dayFive, y -> y.tell(0, 0, 6));
    }

    private static CountTreaty twoHundredTold() {
        CountTreaty x = dayFive();
        for (int i = 0; i < 200; i++) due("tell", x.tell(i % 2, i % 4, i % 6), i);
        return x;
    }

    @Edge(promise = 22, says = "or there are 200.")
    static void theTwoHundredAndFirst() {
        CountTreaty x = twoHundredTold();
        none("the 201st", x.tell(0, 0, 0), x.tell(0, -1, 5));
        due("about(7)", x.about(7), 200);
        due("the 200th is told", x.told(1, 1, 5), 3);
        Looks.refused("the 201st", KnowingEdges::twoHundredTold, y -> y.tell(0, -1, 5));
    }

    @Edge(promise = 22, says = "TOLD (200 at most): by its LAND, on the clock's DAY, of a thing that it is at a SITE of its LAND (or GONE) from a DAY on (0 to the clock's).")
    static void toldOnTheClocksDay() {
        CountTreaty x = dayFive();
        x.tell(2, 5, 1);
        each("by its land, on the clock's day", what -> x.act(3, what), 3, 5, 1, 2);
        none("not known the day ahead", x.told(2, 1, 4));
        due("known on it", x.told(2, 1, 5), 5);
    }

    // Promise 23

    @Edge(promise = 23, says = "TOLD PLACE: a SITE; 101 GONE.")
    static void aSiteOrGone() {
        CountTreaty x = dayFive();
        x.tell(0, 0, 1);
        x.tell(0, 3, 2);
        x.tell(0, -1, 3);
        each("told of each day", day -> x.told(0, day, 5), -1, 0, 3, 101, 101);
    }

    @Edge(promise = 23, says = "NONE: none, and for others.")
    static void noneIsTold() {
        CountTreaty x = dayFive();
        none("none", x.told(0, 5, 5));
        x.tell(0, 0, 0);
        none("of another thing", x.told(1, 5, 5));
        none("no such thing", x.told(-1, 5, 5), x.told(3, 5, 5), x.told(FAR, 5, 5), x.told(LOW, 5, 5));
        none("no such day", x.told(0, -1, 5), x.told(0, 2000, 5), x.told(0, FAR, 5), x.told(0, LOW, 5));
        none("not such a day to know on", x.told(0, 5, -1), x.told(0, 5, 2000), x.told(0, 5, FAR), x.told(0, 5, LOW));
        due("the last days", x.told(0, 1999, 1999), 0);
        due("a day behind the one on which it is known", x.told(0, 1999, 5), 0);
    }

    @Edge(promise = 23, says = "TOLD PLACE of a thing on DAY d as KNOWN on DAY q: of those that hold from d or ahead, TOLD on q or ahead, the one with the latest DAY, of like ones the latest told; without none.")
    static void theLatestDayThenTheLatestTold() {
        CountTreaty x = dayFive();
        x.tell(0, 1, 3);
        x.tell(0, 2, 2);
        x.tell(0, 3, 3);
        x.days(1);
        x.tell(0, 0, 3);
        x.days(1);
        x.tell(0, -1, 7);
        x.tell(0, 1, 0);
        none("ahead of all, known on the day ahead", x.told(0, 1, 6));
        due("ahead of them, known when it was told", x.told(0, 1, 7), 1);
        due("just from that day", x.told(0, 2, 5), 2);
        due("of like ones the latest told", x.told(0, 3, 5), 3);
        due("as it was put right a day later", x.told(0, 3, 6), 0);
        due("though told ahead, the latest day", x.told(0, 6, 7), 0);
        due("from the last one's day on", x.told(0, 7, 7), 101);
        due("not as known the day ahead", x.told(0, 7, 6), 0);
    }

    // Promise 24

    @Edge(promise = 24, says = "How many things of a SORT have that TOLD PLACE.")
    static void howManyHaveThatPlace() {
        CountTreaty x = lands(false);
        for (int i = 0; i < 40; i++) x.make(0, 3, 1, 1);
        each("none is told", site -> x.toldAt(site, 3, 0, 0), 0, 0, 0, 0, 0, 0);
        for (int i = 0; i < 40; i++) x.tell(i, 1, 0);
        due("all forty", x.toldAt(1, 3, 0, 0), 40);
        each("of each sort", sort -> x.toldAt(1, sort, 0, 0), 0, 0, 0, 40);
        x.days(1);
        x.tell(0, 2, 1);
        x.tell(1, -1, 1);
        due("two less", x.toldAt(1, 3, 1, 1), 38);
        due("one there", x.toldAt(2, 3, 1, 1), 1);
        due("the day ahead", x.toldAt(1, 3, 0, 1), 40);
        due("as known the day ahead", x.toldAt(1, 3, 1, 0), 40);
    }

    @Edge(promise = 24, says = "NONE for others.")
    static void noSuchPlaceOrSort() {
        CountTreaty x = dayFive();
        x.tell(0, -1, 0);
        none("sites", x.toldAt(-1, 0, 0, 5), x.toldAt(6, 0, 0, 5), x.toldAt(101, 0, 0, 5), x.toldAt(FAR, 0, 0, 5), x.toldAt(LOW, 0, 0, 5));
        none("sorts", x.toldAt(0, -1, 0, 5), x.toldAt(0, 4, 0, 5), x.toldAt(0, FAR, 0, 5), x.toldAt(0, LOW, 0, 5));
        none("days", x.toldAt(0, 0, -1, 5), x.toldAt(0, 0, 2000, 5), x.toldAt(0, 0, LOW, 5));
        none("days to know on", x.toldAt(0, 0, 0, -1), x.toldAt(0, 0, 0, 2000), x.toldAt(0, 0, 0, FAR));
        due("the last of all", x.toldAt(5, 3, 1999, 1999), 0);
    }

    // Promise 25

    @Edge(promise = 25, says = "A VISIT: its number.")
    static void visitsAreNumberedFromNought() {
        CountTreaty x = dayFive();
        due("visit", x.visit(1, 0), 0);
        none("a refused one takes no number", x.visit(0, 0));
        due("the same once more", x.visit(1, 0), 1);
        due("the other land's", x.visit(0, 5), 2);
        due("about(8)", x.about(8), 3);
    }

    @Edge(promise = 25, says = "NONE: others,")
    static void visitsToNothing() {
        CountTreaty x = dayFive();
        none("no such land", x.visit(-1, 0), x.visit(2, 0), x.visit(FAR, 0), x.visit(LOW, 0), x.visit(2, 4));
        none("no such site", x.visit(1, -1), x.visit(1, 6), x.visit(0, 6), x.visit(0, -1), x.visit(1, FAR), x.visit(1, LOW));
        Looks.refused("visit(2, 0)", KnowingEdges::dayFive, y -> y.visit(2, 0));
        Looks.refused("visit(1, 6)", KnowingEdges::dayFive, y -> y.visit(1, 6));
    }

    @Edge(promise = 25, says = "the SITE is its own,")
    static void visitsToItsOwnSite() {
        CountTreaty x = dayFive();
        none("its own", x.visit(0, 0), x.visit(0, 3), x.visit(1, 4), x.visit(1, 5));
        due("the other one's", x.visit(0, 4), 0);
        Looks.refused("visit(0, 0)", KnowingEdges::dayFive, y -> y.visit(0, 0));
    }

    @Edge(promise = 25, says = "DAY 0,")
    static void visitsOnDayNought() {
        CountTreaty x = lands(false);
        none("day 0", x.visit(1, 0), x.visit(0, 4));
        x.days(1);
        due("day 1", x.visit(1, 0), 0);
        due("day 1999", go(lands(false), 1999).visit(1, 0), 0);
        Looks.refused("on day 0", () -> lands(false), y -> y.visit(1, 0));
    }

    private static CountTreaty hundredVisits() {
        CountTreaty x = dayFive();
        for (int i = 0; i < 100; i++) due("visit", x.visit(1 - i % 2, i % 2 * 4), i);
        return x;
    }

    @Edge(promise = 25, says = "or there are 100.")
    static void theHundredAndFirstVisit() {
        CountTreaty x = hundredVisits();
        none("the 101st", x.visit(1, 0), x.visit(0, 4));
        due("about(8)", x.about(8), 100);
        each("what the 100th saw", what -> x.saw(99, what), 0, 0, 1, 0, 0, -1, 5);
        Looks.refused("the 101st", KnowingEdges::hundredVisits, y -> y.visit(1, 0));
    }

    @Edge(promise = 25, says = "VISITS (100 at most): a LAND at a SITE of the other one, on the clock's DAY (not DAY 0), ahead of all that is done on it: it sees what was there as the DAY ahead was over:")
    static void aheadOfAllThatIsDone() {
        CountTreaty x = dayFive();
        x.make(1, 0, 1, 1);
        x.move(0, 1);
        x.visit(1, 0);
        x.visit(1, 1);
        due("what left today is seen", x.saw(0, 0), 1);
        due("what was made today isn't", x.saw(1, 0), 0);
        x.days(1);
        x.visit(1, 0);
        x.visit(1, 1);
        due("a day later it isn't seen", x.saw(2, 0), 0);
        due("what was made is", x.saw(3, 0), 1);
        x.days(1);
        x.visit(1, 1);
        due("what comes today isn't", x.saw(4, 0), 1);
        x.days(1);
        x.visit(1, 1);
        due("a day later it is", x.saw(5, 0), 2);
        CountTreaty y = with(lands(false), "steps 1 wait 0;", 0);
        y.make(3, 0, 1, 1);
        y.days(1);
        y.step(0);
        y.visit(1, 3);
        due("what is gone today is seen", y.saw(0, 0), 1);
        y.days(1);
        y.visit(1, 3);
        due("a day later it isn't", y.saw(1, 0), 0);
    }

    // Promise 26

    @Edge(promise = 26, says = "What a VISIT saw: 0 .. 3 of a SORT, 4 VEILED ones, 5 the SEAL: 1 whole, 0 broken, NONE none was put; 6 its DAY.")
    static void whatAVisitSaw() {
        CountTreaty x = lands(false);
        for (int i = 0; i < 10; i++) x.make(0, i < 1 ? 0 : i < 3 ? 1 : i < 6 ? 2 : 3, 1, 1);
        x.days(1);
        x.visit(1, 0);
        each("saw", what -> x.saw(0, what), 1, 2, 3, 4, 0, -1, 1);
        with(x, "veil sort>=2;", 1);
        x.visit(1, 0);
        each("with veils", what -> x.saw(1, what), 1, 2, 0, 0, 7, -1, 1);
        x.visit(1, 3);
        each("nothing", what -> x.saw(2, what), 0, 0, 0, 0, 0, -1, 1);
        each("what was seen stays", what -> x.saw(0, what), 1, 2, 3, 4, 0, -1, 1);
        CountTreaty y = lands(false);
        for (int i = 0; i < 40; i++) y.make(0, 0, 1, 1);
        y.days(1);
        y.visit(1, 0);
        due("all forty", y.saw(0, 0), 40);
    }

    @Edge(promise = 26, says = "NONE for others.")
    static void noSuchVisit() {
        CountTreaty x = dayFive();
        none("without any", x.saw(0, 0), x.saw(0, 6));
        x.visit(1, 0);
        none("no such visit", x.saw(1, 0), x.saw(-1, 0), x.saw(FAR, 0), x.saw(LOW, 0));
        none("nothing such", x.saw(0, -1), x.saw(0, 7), x.saw(0, 8), x.saw(0, 9), x.saw(0, FAR), x.saw(0, LOW));
        due("its day", x.saw(0, 6), 5);
        x.seal(0);
        x.days(1);
        x.visit(1, 0);
        x.visit(1, 0);
        none("nothing such of the last ones", x.saw(1, 7), x.saw(1, 9), x.saw(1, 10), x.saw(2, -1), x.saw(2, 7), x.saw(2, LOW));
        due("the last one's seal", x.saw(2, 5), 1);
    }

    @Edge(promise = 26, says = "how many of each SORT aren't VEILED (by THE TREATY of the VISIT's DAY), how many are (of all SORTS together),")
    static void veiledByTheTreatyOfTheVisitsDay() {
        CountTreaty x = with(dayFive(), "veil sort=1;", 6);
        x.visit(1, 0);
        each("on the day ahead of the text's", what -> x.saw(0, what), 1, 1, 0, 0, 0);
        x.days(1);
        x.visit(1, 0);
        each("on the text's day, though there the day ahead", what -> x.saw(1, what), 1, 0, 0, 0, 1);
        with(x, "veil class=0 and land=0;", 7);
        x.days(1);
        x.visit(1, 0);
        each("of all sorts together", what -> x.saw(2, what), 0, 0, 0, 0, 2);
        x.visit(0, 4);
        each("not at the other land's site", what -> x.saw(3, what), 0, 0, 1, 0, 0);
    }

    @Edge(promise = 26, says = "VEILED at a SITE: one of its veil CLAUSES is so; without none.")
    static void veiledByOneOfItsClauses() {
        String[] texts = {"", "veil 1=2;", "veil 1=2;veil length=40;", "veil weight<20;counts 1=2;veil length=40;", "veil class=4;", "veil class#0;", "veil class=0;"};
        int[] veiled = {0, 0, 1, 2, 0, 0, 2};
        for (int i = 0; i < texts.length; i++) {
            CountTreaty x = with(dayFive(), texts[i], 5);
            x.visit(1, 0);
            due("veiled by " + texts[i], x.saw(0, 4), veiled[i]);
            due("the others", x.saw(0, 0) + x.saw(0, 1), 2 - veiled[i]);
        }
    }

    @Edge(promise = 26, says = "and whether the latest SEAL there was whole (of those put on that DAY or ahead).")
    static void theLatestSealOfThatDayOrAhead() {
        CountTreaty x = dayFive();
        x.seal(0);
        x.visit(1, 0);
        none("put today", x.saw(0, 5));
        x.days(1);
        x.visit(1, 0);
        due("put the day ahead", x.saw(1, 5), 1);
        x.move(0, 1);
        x.visit(1, 0);
        due("broken today", x.saw(2, 5), 1);
        due("a new one", x.seal(0), 1);
        x.days(1);
        x.visit(1, 0);
        due("the new one is the latest, and whole", x.saw(3, 5), 1);
        x.move(1, 1);
        x.days(1);
        x.visit(1, 0);
        due("broken the day ahead", x.saw(4, 5), 0);
        x.seal(0);
        x.visit(1, 0);
        due("the one of today isn't seen, the one ahead is broken", x.saw(5, 5), 0);
        x.visit(1, 3);
        none("at another site none was put", x.saw(6, 5));
        x.days(1);
        x.visit(1, 0);
        due("a day later it is seen", x.saw(7, 5), 1);
        x.visit(0, 4);
        none("nor at the other land's", x.saw(8, 5));
    }

    // Promise 27

    @Edge(promise = 27, says = "CLOUDS over a SITE on a DAY: how many there are.")
    static void cloudsAreCounted() {
        CountTreaty x = dayFive();
        due("a day ahead of the clock's", x.cloud(0, 0), 1);
        due("the last day", x.cloud(0, 1999), 2);
        due("the clock's", x.cloud(0, 5), 3);
        due("another site", x.cloud(5, 5), 4);
        due("about(13)", x.about(13), 4);
    }

    @Edge(promise = 27, says = "NONE for others,")
    static void cloudsOverNothing() {
        CountTreaty x = dayFive();
        none("sites", x.cloud(-1, 0), x.cloud(6, 0), x.cloud(FAR, 0), x.cloud(LOW, 0));
        none("days", x.cloud(0, -1), x.cloud(0, 2000), x.cloud(0, FAR), x.cloud(0, LOW));
        due("about(13)", x.about(13), 0);
        Looks.refused("cloud(6, 0)", KnowingEdges::dayFive, y -> y.cloud(6, 0));
        Looks.refused("cloud(0, 2000)", KnowingEdges::dayFive, y -> y.cloud(0, 2000));
    }

    @Edge(promise = 27, says = "if they are told,")
    static void cloudsThatAreTold() {
        Supplier<CountTreaty> made = () -> {
            CountTreaty x = dayFive();
            due("clouds", x.cloud(0, 5), 1);
            return x;
        };
        CountTreaty x = made.get();
        none("told", x.cloud(0, 5));
        due("the day behind", x.cloud(0, 6), 2);
        due("the day ahead", x.cloud(0, 4), 3);
        due("the next site", x.cloud(1, 5), 4);
        Looks.refused("cloud(0, 5)", made, y -> y.cloud(0, 5));
    }

    private static CountTreaty sixtyClouds() {
        CountTreaty x = dayFive();
        for (int i = 1; i <= 60; i++) due("cloud", x.cloud(i % 3, 4 + i / 3), i);
        return x;
    }

    @Edge(promise = 27, says = "or there are 60.")
    static void theSixtyFirstCloud() {
        CountTreaty x = sixtyClouds();
        none("the 61st", x.cloud(5, 5), x.cloud(0, 1999));
        due("about(13)", x.about(13), 60);
        none("so there is a picture", x.picture(0));
        due("of a site without them", x.picture(3), 0);
        Looks.refused("the 61st", KnowingEdges::sixtyClouds, y -> y.cloud(3, 5));
    }

    // Promise 28

    @Edge(promise = 28, says = "A PICTURE: how many it tells.")
    static void howManyAPictureTells() {
        CountTreaty x = dayFive();
        due("of two one is long", x.picture(0), 1);
        due("none", x.picture(3), 0);
        due("the other land's", x.picture(4), 1);
        due("once more", x.picture(0), 1);
        due("about(9)", x.about(9), 4);
        due("they aren't acts", x.about(11), 3);
        CountTreaty y = lands(false);
        for (int i = 0; i < 40; i++) y.make(0, 0, 200, 1);
        y.days(1);
        due("all forty", y.picture(0), 40);
    }

    @Edge(promise = 28, says = "NONE: others, COVERED,")
    static void picturesOfNothing() {
        CountTreaty x = dayFive();
        none("no such site", x.picture(-1), x.picture(6), x.picture(FAR), x.picture(LOW));
        none("covered", x.picture(5));
        due("about(9)", x.about(9), 0);
        Looks.refused("covered", KnowingEdges::dayFive, y -> y.picture(5));
        Looks.refused("picture(6)", KnowingEdges::dayFive, y -> y.picture(6));
    }

    @Edge(promise = 28, says = "CLOUDS,")
    static void picturesOfClouds() {
        CountTreaty x = dayFive();
        x.cloud(0, 4);
        x.cloud(0, 6);
        x.cloud(1, 5);
        due("clouds on the days ahead and behind, and elsewhere", x.picture(0), 1);
        none("clouds", x.picture(1));
        x.cloud(0, 5);
        none("told behind a picture", x.picture(0));
        span("that picture stays", x, 0, 1, 4, 5, 0, 40);
        x.days(1);
        due("gone from one", x.picture(1), 0);
        none("and there", x.picture(0));
        Looks.refused("clouds", () -> {
            CountTreaty y = dayFive();
            y.cloud(1, 5);
            return y;
        }, y -> y.picture(1));
    }

    @Edge(promise = 28, says = "DAY 0,")
    static void picturesOnDayNought() {
        CountTreaty x = lands(false);
        none("day 0", x.picture(0), x.picture(4));
        x.days(1);
        due("day 1", x.picture(0), 0);
        Looks.refused("on day 0", () -> lands(false), y -> y.picture(0));
    }

    private static CountTreaty hundredPictures() {
        CountTreaty x = dayFive();
        for (int i = 0; i < 100; i++) due("picture", x.picture(i % 5), i % 5 % 4 == 0 ? 1 : 0);
        return x;
    }

    @Edge(promise = 28, says = "or there are 100.")
    static void theHundredAndFirstPicture() {
        CountTreaty x = hundredPictures();
        none("the 101st", x.picture(0), x.picture(4));
        due("about(9)", x.about(9), 100);
        Looks.refused("the 101st", KnowingEdges::hundredPictures, y -> y.picture(0));
    }

    @Edge(promise = 28, says = "PICTURES (100 at most) likewise, of a SITE that isn't COVERED, not on a DAY with CLOUDS there: how many things with LENGTH of SEEN (1 .. 200; at first 40) or more were there.")
    static void thingsOfSeenOrMore() {
        for (int seen : new int[] {1, 40, 200}) {
            CountTreaty x = lands(false);
            x.rules(0, 0, seen);
            if (seen > 1) x.make(0, 0, seen - 1, 1);
            x.make(0, 0, seen, 1);
            if (seen < 200) x.make(0, 0, seen + 1, 1);
            x.days(1);
            x.make(1, 0, 200, 1);
            due("of " + seen, x.picture(0), seen < 200 ? 2 : 1);
            due("what was made today isn't told", x.picture(1), 0);
            x.move(0, 1);
            x.move(1, 1);
            due("what leaves today is", x.picture(0), seen < 200 ? 2 : 1);
            x.days(2);
            due("left", x.picture(0), seen == 40 ? 1 : 0);
            due("what comes today isn't", x.picture(1), 1);
            x.days(1);
            due("veils don't matter", with(x, "veil 1=1;", 4).picture(1), seen == 1 ? 3 : 2);
        }
    }

    // Promise 29

    @Edge(promise = 29, says = "Least POSSIBLE number (most false), the greatest.")
    static void leastAndGreatest() {
        CountTreaty x = known();
        x.make(0, 0, 15, 15);
        x.make(0, 1, 25, 15);
        with(x, "veil sort=1;", 1);
        x.days(1);
        span("nothing is seen", x, 0, 0, 1, 1, 0, 40);
        x.visit(1, 0);
        span("one, and a veiled one", x, 0, 0, 1, 1, 1, 2);
        span("none, and a veiled one", x, 0, 1, 1, 1, 0, 1);
    }

    @Edge(promise = 29, says = "NONE: none is,")
    static void noneIsPossible() {
        CountTreaty x = known();
        x.make(0, 0, 60, 15);
        x.days(1);
        x.visit(1, 0);
        x.move(0, 1);
        x.days(1);
        x.visit(1, 0);
        none("one was seen, none left by a record, none was seen", x.possible(0, 0, 1, 2, false), x.possible(0, 0, 1, 2, true));
        none("and ever after", x.possible(0, 0, 1999, 1999, false), x.possible(0, 0, 1999, 1999, true));
        span("not the day ahead", x, 0, 0, 0, 2, 1, 1);
        span("not as known ahead of the visit", x, 0, 0, 1, 1, 1, 1);
        CountTreaty y = known();
        y.make(0, 0, 15, 15);
        y.days(1);
        y.visit(1, 0);
        y.move(0, 1);
        y.days(2);
        y.make(2, 0, 15, 15);
        y.move(1, 0);
        y.days(1);
        span("one left, none is, one came", y, 0, 0, 4, 4, 1, 1);
        CountTreaty z = known();
        z.make(2, 2, 15, 15);
        z.make(3, 2, 15, 15);
        z.days(1);
        z.visit(1, 2);
        z.visit(1, 3);
        z.move(0, 1);
        z.move(1, 1);
        none("of none, no greater number at a plant", z.possible(2, 0, 1, 1, false), z.possible(2, 0, 9, 9, true));
        none("of none, no lower number at a scrap site", z.possible(3, 0, 1, 1, false), z.possible(3, 0, 9, 9, true));
    }

    @Edge(promise = 29, says = "d is above q,")
    static void dAboveQ() {
        CountTreaty x = dayFive();
        none("above", x.possible(0, 0, 1, 0, false), x.possible(0, 0, 1999, 1998, true), x.possible(0, 0, 6, 5, true));
        span("the same", x, 0, 0, 0, 0, 0, 40);
        span("the last", x, 0, 0, 1999, 1999, 0, 40);
        span("below", x, 0, 0, 0, 1, 0, 40);
    }

    @Edge(promise = 29, says = "others.")
    static void possibleOfNothing() {
        CountTreaty x = dayFive();
        none("sites", x.possible(-1, 0, 0, 0, true), x.possible(6, 0, 0, 0, true), x.possible(FAR, 0, 0, 0, false), x.possible(LOW, 0, 0, 0, false));
        none("sorts", x.possible(0, -1, 0, 0, true), x.possible(0, 4, 0, 0, true), x.possible(0, FAR, 0, 0, false), x.possible(0, LOW, 0, 0, false));
        none("days", x.possible(0, 0, -1, 0, true), x.possible(0, 0, -1, -1, true), x.possible(0, 0, LOW, 0, true), x.possible(0, 0, 0, 2000, false), x.possible(0, 0, 2000, 2000, true), x.possible(0, 0, 0, FAR, true));
        span("the last of all", x, 5, 3, 1999, 1999, 0, 40);
    }

    @Edge(promise = 29, says = "ahead of DAY 0 0 to 40; then DAY by DAY from 0 to d:")
    static void fromNoughtToForty() {
        CountTreaty x = known();
        for (int i = 0; i < 40; i++) x.make(0, 0, 15, 15);
        x.days(1);
        for (int site = 0; site < 4; site++) span("ahead of all", x, site, 0, 0, 0, 0, 40);
        x.visit(1, 0);
        span("all forty", x, 0, 0, 0, 1, 40, 40);
        span("none", x, 0, 1, 0, 1, 0, 0);
    }

    @Edge(promise = 29, says = "(1) is the DAY QUIET (a SEAL put on a DAY ahead of it was seen whole at a VISIT on a DAY behind it, on q or ahead), nothing comes or goes.")
    static void quietDaysAtTheirEnds() {
        CountTreaty x = known();
        x.make(1, 0, 15, 15);
        x.days(3);
        x.seal(1);
        x.visit(1, 1);
        x.days(1);
        x.visit(1, 1);
        x.days(4);
        x.visit(1, 1);
        span("seen on the seal's day, of the day ahead", x, 1, 0, 2, 8, 1, 1);
        span("seen on the next day, of the seal's day", x, 1, 0, 3, 8, 1, 1);
        span("as known on the seal's day: that isn't quiet", x, 1, 0, 3, 3, 0, 40);
        for (int day = 4; day < 8; day++) span("quiet " + day, x, 1, 0, day, 8, 1, 1);
        for (int day = 4; day < 8; day++) span("as known ahead of the last visit " + day, x, 1, 0, day, 7, 0, 40);
        span("the last visit's own day", x, 1, 0, 8, 8, 0, 40);
        x.days(1);
        x.visit(1, 1);
        span("seen once more: that day is quiet, too", x, 1, 0, 8, 9, 1, 1);
        CountTreaty y = known();
        y.make(1, 0, 15, 15);
        y.days(1);
        y.visit(1, 1);
        y.seal(1);
        y.days(2);
        y.visit(1, 1);
        span("the seal's own day isn't quiet", y, 1, 0, 1, 3, 0, 40);
        span("seen of the day behind it", y, 1, 0, 2, 3, 1, 1);
        CountTreaty z = known();
        z.make(1, 0, 15, 15);
        z.seal(1);
        z.days(1);
        z.visit(1, 1);
        z.move(0, 0);
        z.days(1);
        z.visit(1, 1);
        span("a broken one", z, 1, 0, 1, 2, 0, 0);
        z.days(3);
        z.visit(1, 1);
        span("so the days behind aren't quiet", z, 1, 0, 3, 5, 0, 40);
        CountTreaty w = known();
        w.make(1, 2, 105, 105);
        w.seal(1);
        w.days(2);
        w.picture(1);
        w.days(2);
        w.visit(1, 1);
        span("quiet by the very first visit: as the picture told", w, 1, 2, 2, 4, 0, 1);
        span("as known ahead of it", w, 1, 2, 2, 3, 0, 40);
    }

    @Edge(promise = 29, says = "Else with a PORTAL: its RECORDS of this DAY by MOVES' numbers (of one MOVE what leaves first):")
    static void recordsByMovesNumbers() {
        CountTreaty x = known();
        x.make(0, 0, 15, 15);
        x.make(1, 0, 15, 15);
        x.days(1);
        x.move(1, 0);
        x.days(1);
        x.move(0, 1);
        span("the day ahead", x, 0, 0, 1, 2, 0, 40);
        span("one comes, then one leaves", x, 0, 0, 2, 2, 0, 39);
        CountTreaty y = known();
        y.make(0, 0, 15, 15);
        y.make(1, 0, 15, 15);
        y.days(1);
        y.move(0, 1);
        y.move(1, 0);
        span("one leaves", y, 0, 0, 1, 1, 0, 39);
        span("on the next day one comes", y, 0, 0, 2, 2, 1, 40);
    }

    @Edge(promise = 29, says = "A PORTAL RECORDS each thing that leaves or comes by a MOVE, on that DAY:")
    static void recordsOfLeavingAndComing() {
        CountTreaty x = known();
        x.site(0, 0, true, false);
        x.road(0, 4, 60);
        x.make(0, 0, 15, 15);
        x.days(1);
        x.visit(1, 0);
        x.visit(1, 4);
        x.move(0, 4);
        span("the day ahead of its leaving", x, 0, 0, 0, 61, 1, 1);
        span("its leaving", x, 0, 0, 1, 61, 0, 0);
        span("the day ahead of its coming", x, 4, 0, 60, 61, 0, 0);
        span("its coming", x, 4, 0, 61, 61, 1, 1);
        CountTreaty y = known();
        y.make(2, 0, 15, 15);
        y.make(3, 0, 15, 15);
        with(y, "steps 1 wait 0;", 0);
        y.days(1);
        y.visit(1, 2);
        y.visit(1, 3);
        y.make(2, 0, 15, 15);
        y.step(1);
        span("what is made isn't recorded", y, 2, 0, 0, 1, 1, 1);
        span("what is gone isn't", y, 3, 0, 0, 1, 1, 1);
        span("it can be more", y, 2, 0, 1, 1, 1, 40);
        span("or less", y, 3, 0, 1, 1, 0, 1);
    }

    @Edge(promise = 29, says = "one that FITS this SORT alone makes each number one less or one more (out of 0 to 40 it can't be);")
    static void oneLessOrOneMore() {
        CountTreaty x = known();
        for (int i = 0; i < 4; i++) x.make(i < 2 ? 0 : 1, 0, 15, 15);
        x.days(1);
        x.move(2, 0);
        span("one more: none isn't", x, 0, 0, 2, 2, 1, 40);
        x.days(1);
        x.move(3, 0);
        x.days(1);
        span("two more", x, 0, 0, 3, 3, 2, 40);
        x.move(0, 1);
        span("one less: forty aren't", x, 0, 0, 3, 3, 1, 39);
        x.days(1);
        x.move(1, 1);
        x.days(1);
        x.move(2, 1);
        x.days(1);
        x.move(3, 1);
        span("four less behind two more", x, 0, 0, 6, 6, 0, 36);
        span("another sort", x, 0, 1, 6, 6, 0, 40);
        CountTreaty y = known();
        y.make(0, 0, 60, 15);
        y.make(0, 0, 15, 15);
        y.days(1);
        y.move(0, 1);
        y.days(1);
        y.visit(1, 0);
        y.move(1, 1);
        span("of one none is left", y, 0, 0, 2, 2, 0, 0);
        CountTreaty z = known();
        z.make(0, 2, 15, 15);
        z.days(1);
        z.visit(1, 0);
        z.move(0, 1);
        none("of none one less can't be", z.possible(0, 0, 1, 1, false), z.possible(0, 0, 1, 1, true));
    }

    @Edge(promise = 29, says = "one that FITS this and others makes it so, or not; others don't.")
    static void oneThatFitsTwo() {
        CountTreaty x = known();
        for (int i = 0; i < 3; i++) x.make(0, 0, 22, 15);
        x.make(0, 1, 22, 15);
        x.days(1);
        x.visit(1, 0);
        x.move(0, 1);
        span("so, or not", x, 0, 0, 1, 1, 2, 3);
        span("likewise of the other sort", x, 0, 1, 1, 1, 0, 1);
        span("others don't", x, 0, 2, 1, 1, 0, 0);
        x.move(1, 1);
        span("once more", x, 0, 0, 1, 1, 1, 3);
        span("none less than none", x, 0, 1, 1, 1, 0, 1);
        x.days(1);
        x.move(0, 0);
        span("one comes", x, 0, 0, 3, 3, 1, 4);
        CountTreaty y = known();
        y.make(1, 0, 22, 15);
        y.days(1);
        y.move(0, 0);
        span("of all none is left out", y, 0, 0, 2, 2, 0, 40);
    }

    @Edge(promise = 29, says = "LENGTH from its true one less to it and EL more, WEIGHT likewise with EW")
    static void recordsErrByElAndEw() {
        int[][] things = {{8, 15, 1}, {7, 15, 0}, {22, 15, 2}, {21, 15, 1}, {32, 15, 0}, {33, 15, 0}, {15, 5, 1}, {15, 4, 0}, {15, 25, 1}, {15, 26, 0}, {23, 15, 0}};
        for (int[] t : things) {
            CountTreaty x = known();
            x.make(0, 0, t[0], t[1]);
            x.days(1);
            x.visit(1, 0);
            x.move(0, 1);
            span("by one of " + t[0] + ", " + t[1], x, 0, 0, 1, 1, t[2] == 0 ? 1 : 0, t[2] == 1 ? 0 : 1);
        }
    }

    @Edge(promise = 29, says = "It FITS a SORT if both spans have something in common with the SORT's.")
    static void bothSpansHaveSomethingInCommon() {
        CountTreaty x = known();
        x.make(0, 0, 15, 105);
        x.make(0, 2, 105, 15);
        x.days(1);
        x.visit(1, 0);
        x.move(0, 1);
        x.move(1, 1);
        span("a length of one sort, a weight of another one", x, 0, 0, 1, 1, 1, 1);
        span("turned", x, 0, 2, 1, 1, 1, 1);
        CountTreaty y = known();
        y.sort(0, 15, 15, 15, 15);
        y.rules(0, 0, 100);
        y.make(0, 0, 15, 15);
        y.days(1);
        y.visit(1, 0);
        y.move(0, 1);
        span("single ones alike", y, 0, 0, 1, 1, 0, 0);
        CountTreaty z = known();
        z.sort(3, 10, 20, 10, 20);
        z.sort(2, 1, 200, 1, 500);
        z.make(0, 0, 15, 15);
        z.days(1);
        z.visit(1, 0);
        z.move(0, 1);
        span("it fits three: so, or not", z, 0, 0, 1, 1, 0, 1);
    }

    @Edge(promise = 29, says = "Without a PORTAL: all 0 to 40.")
    static void withoutAPortal() {
        CountTreaty x = known();
        x.make(1, 0, 15, 15);
        x.days(1);
        x.visit(1, 1);
        span("seen", x, 1, 0, 0, 1, 1, 1);
        span("the next day", x, 1, 0, 1, 1, 0, 40);
        CountTreaty y = known();
        y.site(0, 1, false, false);
        y.site(0, 3, false, false);
        y.make(4, 0, 15, 15);
        y.make(5, 0, 15, 15);
        y.days(1);
        y.visit(1, 4);
        y.visit(1, 5);
        span("a plant's next day", y, 4, 0, 1, 1, 0, 40);
        span("a scrap site's", y, 5, 0, 1, 1, 0, 40);
        CountTreaty z = known();
        z.days(1);
        z.picture(1);
        span("a picture's", z, 1, 2, 0, 1, 0, 0);
        span("the next day", z, 1, 2, 1, 1, 0, 40);
    }

    @Edge(promise = 29, says = "(2) At a plant each greater number is POSSIBLE, too (to 40), at a scrap SITE each lower one.")
    static void greaterAtAPlantLowerAtAScrapSite() {
        CountTreaty x = known();
        x.site(0, 2, true, false);
        for (int site = 0; site < 5; site++) for (int i = 0; i < 2; i++) x.make(site, 0, 15, 15);
        x.days(1);
        for (int site = 0; site < 5; site++) x.visit(1, site);
        for (int site = 0; site < 5; site++) span("seen at " + site, x, site, 0, 0, 1, 2, 2);
        span("a base", x, 0, 0, 1, 1, 2, 2);
        span("a plant", x, 2, 0, 1, 1, 2, 40);
        span("a scrap site", x, 3, 0, 1, 1, 0, 2);
        span("a store", x, 4, 0, 1, 1, 2, 2);
        span("none of another sort at a plant", x, 2, 1, 1, 1, 0, 40);
        span("none of another sort at a scrap site", x, 3, 1, 1, 1, 0, 0);
        x.days(1);
        x.visit(1, 2);
        x.visit(1, 3);
        span("a plant seen again", x, 2, 0, 1, 2, 2, 2);
        span("a scrap site seen again", x, 3, 0, 1, 2, 2, 2);
        span("and the day behind", x, 2, 0, 2, 2, 2, 40);
        span("and the day behind", x, 3, 0, 2, 2, 0, 2);
    }

    @Edge(promise = 29, says = "(3) by VISITS on the next DAY (on q or ahead): not below what was seen, not above that and the VEILED ones;")
    static void visitsOnTheNextDay() {
        CountTreaty x = known();
        for (int i = 0; i < 3; i++) x.make(0, 0, 15, 15);
        x.make(0, 2, 105, 105);
        x.days(4);
        x.visit(1, 0);
        span("the day ahead of the day ahead", x, 0, 0, 2, 4, 0, 40);
        span("the day ahead", x, 0, 0, 3, 4, 3, 3);
        span("as known the day ahead", x, 0, 0, 3, 3, 0, 40);
        span("from then on", x, 0, 0, 4, 4, 3, 3);
        with(x, "veil sort=2;", 5);
        x.days(1);
        x.visit(1, 0);
        span("by the first one", x, 0, 0, 4, 5, 3, 3);
        span("a veiled one of each sort can't be where it wasn't", x, 0, 1, 4, 5, 0, 0);
        CountTreaty y = known();
        for (int i = 0; i < 5; i++) y.make(0, i < 3 ? 0 : 2, 15, 15);
        with(y, "veil length=15 and sort=2;", 0);
        y.days(1);
        y.visit(1, 0);
        span("three, and two veiled ones", y, 0, 0, 0, 1, 3, 5);
        span("none, and two veiled ones", y, 0, 2, 0, 1, 0, 2);
        CountTreaty z = go(known(), 1999);
        z.visit(1, 0);
        span("the last day but one", z, 0, 0, 1998, 1999, 0, 0);
        z.visit(1, 1);
        span("the last day but one, without a portal", z, 1, 0, 1998, 1999, 0, 0);
        span("there is no day behind the last", z, 1, 0, 1999, 1999, 0, 40);
    }

    @Edge(promise = 29, says = "by PICTURES on the next DAY likewise, if the SORT's least LENGTH is SEEN or more: not above what they tell.")
    static void picturesOnTheNextDay() {
        CountTreaty x = known();
        x.sort(1, 99, 200, 1, 1);
        x.make(0, 2, 105, 105);
        x.make(0, 0, 100, 15);
        x.days(4);
        due("a picture", x.picture(0), 2);
        span("the least length is seen's", x, 0, 2, 3, 4, 0, 2);
        span("it is above", x, 0, 3, 3, 4, 0, 2);
        span("it is one below", x, 0, 1, 3, 4, 0, 40);
        span("it is far below", x, 0, 0, 3, 4, 0, 40);
        span("the day ahead of the day ahead", x, 0, 2, 2, 4, 0, 40);
        span("as known the day ahead", x, 0, 2, 3, 3, 0, 40);
        x.move(0, 1);
        x.days(1);
        due("one less", x.picture(0), 1);
        span("so is it", x, 0, 2, 4, 5, 0, 1);
        x.visit(1, 0);
        span("a visit, too", x, 0, 2, 4, 5, 0, 0);
    }

    // Promise 30

    @Edge(promise = 30, says = "Whether a TOLD number is DOUBTED (1, 0).")
    static void doubtedAtItsEnds() {
        CountTreaty x = known();
        for (int i = 0; i < 4; i++) x.make(0, i < 2 ? 0 : 2, 15, 15);
        with(x, "veil sort=2;", 0);
        x.days(1);
        x.visit(1, 0);
        int[] doubted = {1, 1, 0, 0, 0};
        for (int told = 0; told < 5; told++) {
            due(told + " are told, two to four can be", x.doubted(0, 0, 0, 1), doubted[told]);
            if (told < 2) x.tell(told, 0, 0);
            if (told == 2) due("sort 2: none to two, none is told", x.doubted(0, 2, 0, 1), 0);
        }
        CountTreaty y = known();
        for (int i = 0; i < 3; i++) y.make(1, 0, 15, 15);
        y.days(1);
        y.visit(1, 1);
        for (int told = 0; told < 3; told++) {
            due(told + " of three are told", y.doubted(1, 0, 0, 1), 1);
            y.tell(told, 1, 0);
        }
        due("three are told", y.doubted(1, 0, 0, 1), 0);
        y.make(2, 0, 15, 15);
        y.tell(3, 1, 0);
        due("four are told", y.doubted(1, 0, 0, 1), 1);
        due("the day behind all can be", y.doubted(1, 0, 1, 1), 0);
    }

    @Edge(promise = 30, says = "NONE for others, as possible() but if none is POSSIBLE (1).")
    static void doubtedIfNoneIsPossible() {
        CountTreaty x = known();
        x.make(0, 0, 60, 15);
        x.days(1);
        x.visit(1, 0);
        x.move(0, 1);
        x.days(1);
        x.visit(1, 0);
        none("none is possible", x.possible(0, 0, 1, 2, true));
        due("none is told", x.doubted(0, 0, 1, 2), 1);
        x.tell(0, 0, 0);
        due("one is told", x.doubted(0, 0, 1, 2), 1);
        none("sites", x.doubted(-1, 0, 0, 0), x.doubted(4, 0, 0, 0), x.doubted(FAR, 0, 0, 0), x.doubted(LOW, 0, 0, 0));
        none("sorts", x.doubted(0, -1, 0, 0), x.doubted(0, 4, 0, 0), x.doubted(0, FAR, 0, 0), x.doubted(0, LOW, 0, 0));
        none("days", x.doubted(0, 0, -1, 0), x.doubted(0, 0, 2, 1), x.doubted(0, 0, 0, 2000), x.doubted(0, 0, 2000, 2000), x.doubted(0, 0, LOW, FAR));
        due("the last of all", x.doubted(3, 3, 1999, 1999), 0);
    }

    @Edge(promise = 30, says = "A TOLD number (how many things of the SORT have that TOLD PLACE) is DOUBTED if it isn't POSSIBLE.")
    static void toldAsKnownOnThatDay() {
        CountTreaty x = known();
        x.make(0, 0, 15, 15);
        x.tell(0, 0, 0);
        x.days(1);
        x.visit(1, 0);
        x.move(0, 1);
        due("it left, and wasn't told", x.doubted(0, 0, 1, 1), 1);
        x.days(1);
        x.tell(0, 1, 1);
        due("it was told a day later", x.doubted(0, 0, 1, 2), 0);
        due("as known the day ahead", x.doubted(0, 0, 1, 1), 1);
        due("of the day ahead", x.doubted(0, 0, 0, 2), 0);
    }

    // Promise 31

    /** On DAY 0 as KNOWN on DAY 1 there are DOUBTED SORT 0 at SITE 0, SORTS 2 and 3 at SITE 1, SORT 1 at SITE 3. */
    private static CountTreaty fourDoubts() {
        CountTreaty x = known();
        x.make(0, 0, 15, 15);
        x.make(1, 2, 15, 15);
        x.make(1, 3, 15, 15);
        x.make(3, 1, 15, 15);
        x.days(1);
        for (int site = 0; site < 4; site++) x.visit(1, site);
        return x;
    }

    @Edge(promise = 31, says = "The i-th that is DOUBTED on a DAY as KNOWN, by SITES, then SORTS: 4 SITE + SORT.")
    static void bySitesThenSorts() {
        CountTreaty x = fourDoubts();
        each("doubt", i -> x.doubt(0, 1, i), 0, 6, 7, 13, -1);
        x.tell(1, 1, 0);
        each("one is told", i -> x.doubt(0, 1, i), 0, 7, 13, -1);
        each("as known the day ahead", i -> x.doubt(0, 0, i), -1);
        each("a day later at a site without a portal, and at a scrap site, it can be", i -> x.doubt(1, 1, i), 0, -1);
    }

    @Edge(promise = 31, says = "NONE if there is none such, and for others.")
    static void noSuchDoubt() {
        none("without sites", new CountTreaty().doubt(0, 0, 0));
        CountTreaty x = fourDoubts();
        due("the last one", x.doubt(0, 1, 3), 13);
        none("none such", x.doubt(0, 1, 4), x.doubt(0, 1, FAR));
        none("below 0", x.doubt(0, 1, -1), x.doubt(0, 1, LOW));
        none("days", x.doubt(-1, 1, 0), x.doubt(1, 0, 0), x.doubt(0, 2000, 0), x.doubt(2000, 2000, 0), x.doubt(LOW, 1, 0), x.doubt(0, FAR, 0));
        due("as known on the last day", x.doubt(0, 1999, 3), 13);
        CountTreaty y = new CountTreaty();
        for (int i = 0; i < 10; i++) y.site(0, 0, true, false);
        for (int sort = 0; sort < 4; sort++) for (int site = 0; site < 10; site++) y.make(site, sort, 1, 1);
        y.days(1);
        for (int site = 0; site < 10; site++) y.visit(1, site);
        for (int i = 0; i < 40; i++) due("doubt " + i, y.doubt(0, 1, i), i);
        none("the 41st", y.doubt(0, 1, 40));
    }

    // Promise 32

    @Edge(promise = 32, says = "A QUESTION: its number.")
    static void questionsAreNumberedFromNought() {
        CountTreaty x = lands(false);
        due("on day 0, too", x.ask(1, 0), 0);
        none("a refused one takes no number", x.ask(1, 5));
        due("the same once more", x.ask(1, 0), 1);
        due("the other land's", x.ask(0, 5), 2);
        due("about(10)", x.about(10), 3);
    }

    @Edge(promise = 32, says = "NONE: others, its own SITE,")
    static void questionsAboutNothing() {
        CountTreaty x = lands(false);
        none("no such land", x.ask(-1, 0), x.ask(2, 0), x.ask(FAR, 0), x.ask(LOW, 4));
        none("no such site", x.ask(0, -1), x.ask(0, 6), x.ask(1, 6), x.ask(1, -1), x.ask(1, FAR), x.ask(1, LOW));
        none("its own", x.ask(0, 0), x.ask(0, 3), x.ask(1, 4), x.ask(1, 5));
        due("about(10)", x.about(10), 0);
        Looks.refused("ask(2, 0)", KnowingEdges::dayFive, y -> y.ask(2, 0));
        Looks.refused("ask(1, 6)", KnowingEdges::dayFive, y -> y.ask(1, 6));
        Looks.refused("ask(0, 0)", KnowingEdges::dayFive, y -> y.ask(0, 0));
    }

    private static CountTreaty fiftyQuestions() {
        CountTreaty x = dayFive();
        for (int i = 0; i < 50; i++) due("ask", x.ask(i % 2, i % 2 == 0 ? 4 : 0), i);
        return x;
    }

    @Edge(promise = 32, says = "or there are 50.")
    static void theFiftyFirstQuestion() {
        CountTreaty x = fiftyQuestions();
        none("the 51st", x.ask(0, 4), x.ask(1, 0));
        due("about(10)", x.about(10), 50);
        yes("the 50th can be answered", x.answer(49));
        none("an answer makes no room", x.ask(0, 4));
        Looks.refused("the 51st", KnowingEdges::fiftyQuestions, y -> y.ask(0, 4));
    }

    // Promise 33

    @Edge(promise = 33, says = "It is ANSWERED: true.")
    static void answered() {
        CountTreaty x = lands(false);
        x.ask(1, 0);
        x.ask(0, 4);
        yes("the last", x.answer(1));
        yes("the first", x.answer(0));
        due("each is an act", x.about(11), 4);
    }

    @Edge(promise = 33, says = "False: none such, or it was.")
    static void noSuchQuestion() {
        CountTreaty x = lands(false);
        no("without any", x.answer(0));
        x.ask(1, 0);
        no("none such", x.answer(1));
        no("below 0", x.answer(-1));
        no("far off", x.answer(FAR));
        no("far below", x.answer(LOW));
        yes("it", x.answer(0));
        no("it was", x.answer(0));
        x.days(1);
        no("it was, a day later", x.answer(0));
        due("the acts", x.about(11), 2);
        Looks.refused("answer(0)", () -> {
            CountTreaty y = dayFive();
            y.ask(1, 0);
            y.answer(0);
            return go(y, 40);
        }, y -> y.answer(0) ? 1 : 0, 0);
        Looks.refused("answer(1)", () -> {
            CountTreaty y = dayFive();
            y.ask(1, 0);
            return y;
        }, y -> y.answer(1) ? 1 : 0, 0);
    }

    @Edge(promise = 33, says = "QUESTIONS (50 at most): by a LAND about a SITE of the other one, on a DAY; ANSWERED by that on a later one, or the same.")
    static void answeredByTheOtherLand() {
        CountTreaty x = dayFive();
        x.ask(1, 2);
        x.ask(0, 5);
        x.answer(1);
        x.days(1);
        x.answer(0);
        each("the question", what -> x.act(3, what), 5, 5, 1, 2);
        each("the other question", what -> x.act(4, what), 5, 5, 0, 5);
        each("its answer, on the same day", what -> x.act(5, what), 6, 5, 1, 1);
        each("the answer on a later one", what -> x.act(6, what), 6, 6, 0, 0);
    }
}
