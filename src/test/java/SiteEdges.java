import java.util.function.Supplier;

/** Edges of the promises 1 to 14, and of the terms under I: lands, SITES, ROADS, things, SEALS. */
final class SiteEdges extends Dues {
    private static CountTreaty plainLands() { return lands(false); }

    /** Ten SITES, of LAND 0 and 1 by turns; no ROADS. */
    private static CountTreaty tenSites() {
        CountTreaty x = new CountTreaty();
        for (int i = 0; i < 10; i++) due("site", x.site(i % 2, i % 4, i % 3 == 0, i % 3 == 1), i);
        return x;
    }

    /** SITES 0 with a PORTAL, 1 without, a ROAD of a DAY, and SORTS 1 to 3 that lie far from SORT 0. */
    private static CountTreaty farSorts() {
        CountTreaty x = new CountTreaty();
        x.site(0, 0, true, false);
        x.site(0, 0, false, false);
        x.road(0, 1, 1);
        yes("sort 1", x.sort(1, 200, 200, 500, 500));
        yes("sort 2", x.sort(2, 200, 200, 500, 500));
        yes("sort 3", x.sort(3, 200, 200, 500, 500));
        return x;
    }

    /** Whether a thing of these measures FITS SORT 0 as it leaves: a VISIT saw one, so then there is none (the SORTS of farSorts). */
    private static int fits(Supplier<CountTreaty> made, int length, int weight) {
        CountTreaty x = made.get();
        x.make(0, 0, length, weight);
        x.days(1);
        x.visit(1, 0);
        x.move(0, 1);
        return 1 - x.possible(0, 0, 1, 1, true);
    }

    // Promise 1

    @Edge(promise = 1, says = "No SITES, THINGS, TEXTS;")
    static void nothingIsThere() {
        CountTreaty x = new CountTreaty();
        for (int what = 1; what < 15; what++) due("about(" + what + ")", x.about(what), 0);
        none("a site", x.way(0, 0), x.about(20), x.road(0, 1, 1), x.seal(0), x.cloud(0, 0), x.watch(0, 0), x.picture(0), x.visit(1, 0), x.ask(1, 0));
        none("what is known of a site", x.possible(0, 0, 0, 0, false), x.doubted(0, 0, 0, 0), x.doubt(0, 0, 0), x.toldAt(0, 0, 0, 0));
        none("sets of sites", x.value(1, 1, false), x.share(1, 1, 0, false), x.proof(1, 1, 1, 1, 1, 1, 1));
        no("a site's chance", x.chance(0, 10));
        none("a thing", x.make(0, 0, 1, 1), x.thing(0, 0), x.where(0, 0), x.move(0, 0), x.step(0), x.tell(0, -1, 0), x.told(0, 0, 0), x.counts(0, -1, 0));
        none("a row", x.whole(0, 0), x.saw(0, 0), x.act(0, 0), x.judged(0, 0), x.fails(1, 0, 0), x.trick(0, 1, 0, 0), x.fault(0), x.fault(1));
        no("a question", x.answer(0));
        each("counted", land -> x.counted(land, 0), 0, 0);
        each("unseen", land -> x.unseen(land, 30), 0, 0);
        each("says", what -> x.says(0, what), 99, 30, 99, 3, 0, 30);
    }

    @Edge(promise = 1, says = "DAY 0;")
    static void itIsDayNought() {
        CountTreaty x = new CountTreaty();
        due("the clock", x.about(0), 0);
        due("a day later", x.days(1), 1);
        due("another object's clock", new CountTreaty().about(0), 0);
    }

    @Edge(promise = 1, says = "THE IMAGE is this.")
    static void theImageIsEmpty() {
        Looks.same("back() at once", CountTreaty::new, () -> {
            CountTreaty x = new CountTreaty();
            due("back", x.back(), 0);
            return x;
        });
        Looks.same("back() behind all that can be done, but the tape and the fault", () -> {
            CountTreaty x = new CountTreaty();
            none("a fault", read(x, "x", 0));
            return x;
        }, () -> {
            CountTreaty x = plainLands();
            x.sort(0, 5, 6, 7, 8);
            x.rules(9, 9, 9);
            x.make(0, 0, 5, 5);
            x.chance(0, 50);
            x.seal(0);
            read(x, "tell 1;", 0);
            none("a fault", read(x, "x", 0));
            x.cloud(0, 0);
            x.watch(0, 0);
            x.days(1);
            x.move(0, 1);
            x.visit(1, 0);
            x.picture(1);
            x.ask(1, 0);
            x.answer(0);
            x.tell(0, 0, 0);
            due("back", x.back(), 0);
            return x;
        });
    }

    // Promise 2

    @Edge(promise = 2, says = "A SITE: its number.")
    static void sitesAreNumberedFromNought() {
        CountTreaty x = new CountTreaty();
        for (int i = 0; i < 4; i++) due("site", x.site(1, i, false, false), i);
        none("a refused one takes no number", x.site(2, 0, false, false));
        due("so the next one is 4", x.site(0, 0, true, true), 4);
        due("about(1)", x.about(1), 5);
    }

    @Edge(promise = 2, says = "LANDS 0 and 1.")
    static void landsBeyondNoughtAndOne() {
        CountTreaty x = new CountTreaty();
        none("just below, just above", x.site(-1, 0, false, false), x.site(2, 0, false, false));
        none("far off", x.site(LOW, 0, false, false), x.site(FAR, 0, false, false));
        due("land 0", x.site(0, 0, false, false), 0);
        due("land 1", x.site(1, 0, false, false), 1);
        Looks.refused("site(2, ..)", SiteEdges::plainLands, y -> y.site(2, 0, true, true));
    }

    @Edge(promise = 2, says = "a CLASS (0 base, 1 plant, 2 store, 3 scrap)")
    static void classesBeyondScrap() {
        CountTreaty x = new CountTreaty();
        none("just below, just above (the road's is no site's)", x.site(0, -1, false, false), x.site(0, 4, false, false));
        none("far off", x.site(0, LOW, false, false), x.site(0, FAR, false, false));
        for (int k = 0; k < 4; k++) due("class " + k, x.site(0, k, false, false), k);
        x.days(1);
        each("made a day later", k -> x.make(k, 0, 1, 1), -1, 0, -1, -1);
    }

    @Edge(promise = 2, says = "SITES 0 .. 9: a LAND, a CLASS (0 base, 1 plant, 2 store, 3 scrap), with a PORTAL or not, COVERED or not.")
    static void withAPortalCoveredOrNot() {
        CountTreaty x = new CountTreaty();
        for (int i = 0; i < 4; i++) due("site", x.site(0, 0, i % 2 == 1, i / 2 == 1), i);
        x.days(1);
        each("a picture, of one that isn't covered", i -> x.picture(i), 0, 0, -1, -1);
        x.days(1);
        x.visit(1, 0);
        x.visit(1, 1);
        span("without a portal all can be on the next day", x, 0, 0, 2, 2, 0, 40);
        span("with one none", x, 1, 0, 2, 2, 0, 0);
    }

    @Edge(promise = 2, says = "NONE for others, or if there are 10.")
    static void theEleventhSite() {
        CountTreaty x = tenSites();
        none("the 11th", x.site(0, 0, false, false), x.site(1, 3, true, true));
        due("about(1)", x.about(1), 10);
        due("the 10th is there", x.about(29), 10);
        Looks.refused("the 11th", SiteEdges::tenSites, y -> y.site(0, 0, false, false));
    }

    // Promise 3

    /** Two SITES of LAND 0, one of LAND 1, a number of ROADS of nine DAYS. */
    private static CountTreaty roads(int number) {
        CountTreaty x = new CountTreaty();
        for (int i = 0; i < 3; i++) x.site(i / 2, 0, false, false);
        for (int i = 0; i < number; i++) due("road", x.road(i % 2, 1 - i % 2, 9), i);
        return x;
    }

    @Edge(promise = 3, says = "A ROAD: its number.")
    static void roadsAreNumberedFromNought() {
        CountTreaty x = roads(3);
        none("a refused one takes no number", x.road(0, 0, 9));
        due("the fourth", x.road(0, 1, 9), 3);
        due("about(2)", x.about(2), 4);
    }

    @Edge(promise = 3, says = "ROADS (30 at most) between two SITES of one LAND, both ways, of 1 .. 60 DAYS.")
    static void roadsOfOneToSixtyDays() {
        CountTreaty x = roads(0);
        none("too short", x.road(0, 1, 0), x.road(0, 1, -1), x.road(0, 1, LOW));
        none("too long", x.road(0, 1, 61), x.road(0, 1, FAR));
        none("so there is no way", x.way(0, 1));
        due("the longest", x.road(0, 1, 60), 0);
        due("both ways", x.way(0, 1) * 100 + x.way(1, 0), 6060);
        due("the shortest", x.road(1, 0, 1), 1);
        due("both ways", x.way(0, 1) * 100 + x.way(1, 0), 101);
    }

    @Edge(promise = 3, says = "NONE for others, one and the same SITE, other LANDS, or if there are 30.")
    static void roadsThatCantBe() {
        CountTreaty x = tenSites();
        none("one and the same site", x.road(0, 0, 5), x.road(9, 9, 5));
        none("other lands", x.road(0, 1, 5), x.road(1, 0, 5), x.road(9, 8, 5));
        none("no such site", x.road(0, 10, 5), x.road(10, 0, 5), x.road(-1, 1, 5), x.road(1, -1, 5), x.road(-1, -1, 5), x.road(10, 10, 5), x.road(FAR, LOW, 5));
        due("the first and the last of a land", x.road(0, 8, 5), 0);
        due("the first and the last of the other one", x.road(9, 1, 5), 1);
        Looks.refused("road(0, 0, 1)", SiteEdges::plainLands, y -> y.road(0, 0, 1));
        Looks.refused("road(0, 4, 1)", SiteEdges::plainLands, y -> y.road(0, 4, 1));
        Looks.refused("road(0, 3, 0)", SiteEdges::plainLands, y -> y.road(0, 3, 0));
    }

    @Edge(promise = 3, says = "or if there are 30.")
    static void theThirtyFirstRoad() {
        CountTreaty x = roads(29);
        due("the 30th", x.road(0, 1, 8), 29);
        none("the 31st", x.road(0, 1, 1), x.road(1, 0, 1));
        due("about(2)", x.about(2), 30);
        due("the 31st shortens no way", x.way(0, 1), 8);
        Looks.refused("the 31st", () -> roads(30), y -> y.road(0, 1, 1));
    }

    // Promise 4

    @Edge(promise = 4, says = "the least sum of DAYS by ROADS.")
    static void theLeastSum() {
        CountTreaty x = new CountTreaty();
        for (int i = 0; i < 10; i++) x.site(0, 0, false, false);
        for (int i = 9; i > 0; i--) x.road(i, i - 1, 60);
        due("the longest way of all", x.way(0, 9), 540);
        none("to no such site, from each one", x.way(0, 10), x.way(8, 10), x.way(9, 10), x.way(1, -1), x.way(9, -1));
        due("and back", x.way(9, 0), 540);
        x.road(3, 5, 60);
        due("one that leaves a site out", x.way(0, 9), 480);
        x.road(3, 4, 30);
        due("of like ones", x.way(3, 5), 60);
        x.road(4, 5, 29);
        due("a day shorter", x.way(3, 5), 59);
        due("a part of a longer one", x.way(9, 0), 479);
        x.road(3, 5, 60);
        due("a longer road beside it", x.way(5, 3), 59);
    }

    @Edge(promise = 4, says = "WAY.")
    static void theWayByOneRoad() {
        CountTreaty x = plainLands();
        due("one road", x.way(0, 1), 2);
        due("two roads", x.way(0, 2), 4);
        due("the other land's", x.way(4, 5), 7);
    }

    @Edge(promise = 4, says = "NONE: there is none, others.")
    static void noWay() {
        CountTreaty x = plainLands();
        none("to the other land", x.way(0, 4), x.way(5, 3));
        none("no such site", x.way(0, 6), x.way(6, 0), x.way(-1, 0), x.way(0, -1), x.way(FAR, 0), x.way(0, LOW));
        x.site(0, 0, false, false);
        none("without a road", x.way(6, 0), x.way(0, 6));
        x.road(6, 3, 60);
        due("with one", x.way(0, 6), 66);
    }

    @Edge(promise = 4, says = "(0 from a SITE to itself.)")
    static void fromASiteToItself() {
        CountTreaty x = tenSites();
        for (int i = 0; i < 10; i++) due("way(" + i + ", " + i + ")", x.way(i, i), 0);
        none("no such site", x.way(10, 10), x.way(-1, -1), x.way(FAR, FAR), x.way(LOW, LOW));
        CountTreaty y = plainLands();
        due("roads there and back don't matter", y.way(1, 1), 0);
    }

    @Edge(promise = 4, says = "WAY from a SITE to another one: the least sum of DAYS by ROADS.")
    static void aWayByManyRoads() {
        CountTreaty x = new CountTreaty();
        for (int i = 0; i < 4; i++) x.site(0, 0, false, false);
        x.road(0, 3, 7);
        x.road(0, 1, 2);
        x.road(1, 2, 2);
        due("one road", x.way(0, 3), 7);
        x.road(2, 3, 2);
        due("three roads are shorter", x.way(0, 3), 6);
        due("and back", x.way(3, 0), 6);
    }

    // Promise 5

    @Edge(promise = 5, says = "A SORT's spans: true.")
    static void spansOfASort() {
        CountTreaty x = farSorts();
        yes("sort 0", x.sort(0, 1, 200, 1, 500));
        yes("sort 3", x.sort(3, 1, 200, 1, 500));
        yes("once more", x.sort(3, 5, 5, 5, 5));
    }

    @Edge(promise = 5, says = "SORTS 0 .. 3: LENGTH from one to one (1 .. 200), WEIGHT from one to one (1 .. 500); at first 1 to 200, 1 to 500.")
    static void spansAtTheirEnds() {
        CountTreaty x = new CountTreaty();
        yes("all", x.sort(0, 1, 200, 1, 500));
        yes("the least alone", x.sort(0, 1, 1, 1, 1));
        yes("the greatest alone", x.sort(0, 200, 200, 500, 500));
        no("sort -1", x.sort(-1, 1, 1, 1, 1));
        no("sort 4", x.sort(4, 1, 1, 1, 1));
        no("sort far off", x.sort(FAR, 1, 1, 1, 1));
        no("sort far below", x.sort(LOW, 1, 1, 1, 1));
        no("from 0 long", x.sort(0, 0, 1, 1, 1));
        no("to 201 long", x.sort(0, 200, 201, 1, 1));
        no("from 0 heavy", x.sort(0, 1, 1, 0, 1));
        no("to 501 heavy", x.sort(0, 1, 1, 500, 501));
        no("from below 0", x.sort(0, LOW, 1, LOW, 1));
        no("to far off", x.sort(0, 1, FAR, 1, FAR));
        no("lengths turned", x.sort(0, 2, 1, 1, 1));
        no("weights turned", x.sort(0, 1, 1, 2, 1));
    }

    @Edge(promise = 5, says = "at first 1 to 200, 1 to 500.")
    static void spansAtFirst() {
        Supplier<CountTreaty> made = () -> {
            CountTreaty x = farSorts();
            x.rules(0, 0, 40);
            return x;
        };
        due("the least", fits(made, 1, 1), 1);
        due("the longest", fits(made, 200, 1), 1);
        due("the heaviest", fits(made, 1, 500), 1);
        CountTreaty x = plainLands();
        x.rules(0, 0, 1);
        x.days(1);
        due("a picture of all that is 1 long", x.picture(0), 0);
        for (int sort = 0; sort < 4; sort++) span("the shortest of each sort is 1", x, 0, sort, 0, 1, 0, 0);
    }

    @Edge(promise = 5, says = "False, changing nothing: others, or a thing was MADE.")
    static void aRefusedSortChangesNothing() {
        int[][] others = {{-1, 1, 200, 1, 500}, {4, 1, 200, 1, 500}, {0, 0, 200, 1, 500}, {0, 1, 201, 1, 500}, {0, 1, 200, 0, 500}, {0, 1, 200, 1, 501},
            {0, 200, 1, 1, 500}, {0, 1, 200, 500, 1}, {0, 9, 8, 50, 60}};
        for (int[] o : others) {
            Supplier<CountTreaty> made = () -> {
                CountTreaty x = farSorts();
                x.rules(0, 0, 40);
                yes("spans", x.sort(0, 10, 20, 50, 60));
                no("refused", x.sort(o[0], o[1], o[2], o[3], o[4]));
                return x;
            };
            due("10, 50 fits", fits(made, 10, 50), 1);
            due("20, 60 fits", fits(made, 20, 60), 1);
            due("9, 50 doesn't", fits(made, 9, 50), 0);
            due("21, 60 doesn't", fits(made, 21, 60), 0);
            due("10, 49 doesn't", fits(made, 10, 49), 0);
            due("20, 61 doesn't", fits(made, 20, 61), 0);
        }
        Looks.refused("sort(4, ..)", SiteEdges::farSorts, y -> y.sort(4, 1, 1, 1, 1) ? 1 : 0, 0);
    }

    @Edge(promise = 5, says = "or a thing was MADE.")
    static void noSpansBehindTheFirstThing() {
        CountTreaty x = farSorts();
        none("a refused thing isn't made", x.make(0, 0, 0, 1));
        yes("ahead of it", x.sort(0, 10, 20, 50, 60));
        due("made", x.make(1, 0, 15, 55), 0);
        for (int sort = 0; sort < 4; sort++) no("behind it", x.sort(sort, 1, 200, 1, 500));
        due("a short one is made", x.make(0, 0, 5, 55), 1);
        x.days(1);
        x.visit(1, 0);
        x.move(1, 1);
        span("it fits no more than before", x, 0, 0, 1, 1, 1, 1);
        x.back();
        x.site(0, 0, false, false);
        yes("none is made in the image", x.sort(0, 1, 200, 1, 500));
    }

    // Promise 6

    @Edge(promise = 6, says = "EL, EW, SEEN: true.")
    static void rulesAtTheirEnds() {
        CountTreaty x = new CountTreaty();
        yes("the least", x.rules(0, 0, 1));
        due("seen", x.about(15), 1);
        yes("the greatest", x.rules(50, 50, 200));
        due("seen", x.about(15), 200);
    }

    @Edge(promise = 6, says = "False, changing nothing, likewise.")
    static void aRefusedRuleChangesNothing() {
        int[][] others = {{-1, 3, 50}, {51, 3, 50}, {3, -1, 50}, {3, 51, 50}, {9, 9, 0}, {9, 9, 201}, {9, 9, LOW}, {FAR, 9, 50}, {9, LOW, 50}};
        for (int[] o : others) {
            Supplier<CountTreaty> made = () -> {
                CountTreaty x = farSorts();
                yes("spans", x.sort(0, 10, 20, 50, 60));
                yes("rules", x.rules(1, 2, 77));
                no("refused", x.rules(o[0], o[1], o[2]));
                due("seen", x.about(15), 77);
                return x;
            };
            due("el", fits(made, 9, 55), 1);
            due("no more", fits(made, 8, 55), 0);
            due("ew", fits(made, 15, 62), 1);
            due("no more", fits(made, 15, 63), 0);
        }
        Looks.refused("rules(0, 0, 0)", SiteEdges::farSorts, y -> y.rules(0, 0, 0) ? 1 : 0, 0);
    }

    @Edge(promise = 6, says = "likewise.")
    static void noRulesBehindTheFirstThing() {
        CountTreaty x = farSorts();
        yes("ahead of it", x.rules(0, 0, 40));
        yes("spans", x.sort(0, 10, 20, 50, 60));
        x.make(0, 0, 9, 55);
        no("behind it", x.rules(1, 0, 40));
        no("behind it", x.rules(0, 0, 1));
        due("seen", x.about(15), 40);
        x.days(1);
        x.visit(1, 0);
        x.move(0, 1);
        span("it doesn't fit", x, 0, 0, 1, 1, 1, 1);
        Looks.refused("rules(1, 1, 1)", () -> {
            CountTreaty y = farSorts();
            y.make(0, 0, 9, 55);
            return y;
        }, y -> y.rules(1, 1, 1) ? 1 : 0, 0);
    }

    @Edge(promise = 6, says = "(0 .. 50 each; at first 2, 5)")
    static void whatARecordErrsBy() {
        for (int[] e : new int[][] {{2, 5}, {0, 0}, {50, 50}}) {
            Supplier<CountTreaty> made = () -> {
                CountTreaty x = farSorts();
                yes("spans", x.sort(0, 60, 70, 100, 110));
                if (e[0] != 2) yes("rules", x.rules(e[0], e[1], 40));
                return x;
            };
            due("just short enough", fits(made, 60 - e[0], 105), 1);
            due("too short", fits(made, 59 - e[0], 105), 0);
            due("just long enough", fits(made, 70 + e[0], 105), 1);
            due("too long", fits(made, 71 + e[0], 105), 0);
            due("just light enough", fits(made, 65, 100 - e[1]), 1);
            due("too light", fits(made, 65, 99 - e[1]), 0);
            due("just heavy enough", fits(made, 65, 110 + e[1]), 1);
            due("too heavy", fits(made, 65, 111 + e[1]), 0);
        }
    }

    @Edge(promise = 6, says = "SEEN (1 .. 200; at first 40)")
    static void seenAtFirst() {
        CountTreaty x = plainLands();
        due("about(15)", x.about(15), 40);
        x.make(0, 0, 39, 1);
        x.make(0, 0, 40, 1);
        x.days(1);
        due("a picture tells the one of 40", x.picture(0), 1);
    }

    // Promise 7

    @Edge(promise = 7, says = "A thing is MADE: its number.")
    static void thingsAreNumberedFromNought() {
        CountTreaty x = plainLands();
        due("make", x.make(0, 0, 1, 1), 0);
        none("a refused one takes no number", x.make(0, 4, 1, 1));
        due("make", x.make(4, 3, 200, 500), 1);
        due("about(3)", x.about(3), 2);
        due("about(11)", x.about(11), 2);
    }

    @Edge(promise = 7, says = "NONE for others,")
    static void thingsThatCantBe() {
        CountTreaty x = plainLands();
        none("no such site", x.make(-1, 0, 1, 1), x.make(6, 0, 1, 1), x.make(FAR, 0, 1, 1), x.make(LOW, 0, 1, 1));
        none("no such sort", x.make(0, -1, 1, 1), x.make(0, 4, 1, 1), x.make(0, FAR, 1, 1));
        none("lengths", x.make(0, 0, 0, 1), x.make(0, 0, 201, 1), x.make(0, 0, LOW, 1), x.make(0, 0, FAR, 1));
        none("weights", x.make(0, 0, 1, 0), x.make(0, 0, 1, 501), x.make(0, 0, 1, LOW), x.make(0, 0, 1, FAR));
        due("the last site, the last sort, the greatest", x.make(5, 3, 200, 500), 0);
        due("the first site, the first sort, the least", x.make(0, 0, 1, 1), 1);
        for (int[] o : new int[][] {{6, 0, 1, 1}, {0, 4, 1, 1}, {0, 0, 201, 1}, {0, 0, 1, 501}}) {
            Looks.refused("make", SiteEdges::plainLands, y -> y.make(o[0], o[1], o[2], o[3]));
        }
    }

    @Edge(promise = 7, says = "or if there are 40.")
    static void theFortyFirstThing() {
        Supplier<CountTreaty> full = () -> {
            CountTreaty x = plainLands();
            for (int i = 0; i < 40; i++) due("make", x.make(i % 6, i % 4, 1, 1), i);
            return x;
        };
        CountTreaty x = full.get();
        none("the 41st", x.make(0, 0, 1, 1));
        due("about(3)", x.about(3), 40);
        due("the 40th is there", x.where(39, 0), 3);
        Looks.refused("the 41st", full, y -> y.make(0, 0, 1, 1));
    }

    @Edge(promise = 7, says = "THINGS 0 .. 39: a SORT, a LENGTH, a WEIGHT (whatever its SORT's spans say).")
    static void whateverItsSortsSpansSay() {
        CountTreaty x = farSorts();
        x.sort(0, 10, 20, 50, 60);
        due("below them", x.make(0, 0, 1, 1), 0);
        due("above them", x.make(0, 0, 200, 500), 1);
        due("its sort", x.thing(1, 0), 0);
    }

    @Edge(promise = 7, says = "It is MADE at a SITE on the clock's DAY: on DAY 0 anywhere, later at a plant alone; its LAND is that SITE's.")
    static void laterAtAPlantAlone() {
        CountTreaty x = plainLands();
        for (int site = 0; site < 6; site++) due("on day 0 at " + site, x.make(site, 0, 1, 1), site);
        each("its land", thing -> x.thing(thing, 3), 0, 0, 0, 0, 1, 1);
        x.days(1);
        each("on day 1", site -> x.make(site, 0, 1, 1), -1, 6, -1, -1, -1, 7);
        due("on the clock's day", x.thing(7, 4), 1);
        due("its land", x.thing(7, 3), 1);
        Looks.refused("make(0, ..) on day 1", () -> go(plainLands(), 1), y -> y.make(0, 0, 1, 1));
    }

    // Promise 8

    /** The lands with a thing 0 at SITE 0, a thing 1 at SITE 3. */
    private static CountTreaty twoThings() {
        CountTreaty x = plainLands();
        x.make(0, 0, 1, 1);
        x.make(3, 0, 1, 1);
        return x;
    }

    @Edge(promise = 8, says = "MOVED: the number of the MOVE.")
    static void movesAreNumberedFromNought() {
        CountTreaty x = twoThings();
        due("move", x.move(1, 0), 0);
        none("a refused one takes no number", x.move(0, 0));
        due("move", x.move(0, 3), 1);
        due("about(4)", x.about(4), 2);
    }

    @Edge(promise = 8, says = "NONE: others,")
    static void movesOfNothing() {
        CountTreaty x = twoThings();
        none("no such thing", x.move(-1, 1), x.move(2, 1), x.move(FAR, 1), x.move(LOW, 1));
        none("no such site", x.move(0, -1), x.move(0, 6), x.move(0, 100), x.move(0, 101), x.move(0, FAR), x.move(0, LOW));
        Looks.refused("move(2, 1)", SiteEdges::twoThings, y -> y.move(2, 1));
        Looks.refused("move(0, 6)", SiteEdges::twoThings, y -> y.move(0, 6));
    }

    @Edge(promise = 8, says = "it isn't at a SITE (as the clock's DAY is so far),")
    static void movesFromTheRoad() {
        CountTreaty x = twoThings();
        due("leaving", x.move(0, 1), 0);
        none("on the road on that day already", x.move(0, 2), x.move(0, 1));
        x.days(1);
        none("on the last day ahead of its coming", x.move(0, 2));
        x.days(1);
        due("on the day of coming it is there", x.move(0, 2), 1);
        none("and left again", x.move(0, 3));
        CountTreaty y = twoThings();
        read(y, "steps 1 wait 0;", 0);
        due("a step", y.step(1), 1);
        none("gone", y.move(1, 2));
        Looks.refused("move from the road", () -> {
            CountTreaty z = twoThings();
            z.move(0, 1);
            return z;
        }, z -> z.move(0, 2));
    }

    @Edge(promise = 8, says = "the SITE is its own one,")
    static void movesToItsOwnSite() {
        CountTreaty x = twoThings();
        none("its own", x.move(0, 0), x.move(1, 3));
        due("the next one", x.move(0, 1), 0);
        x.days(2);
        none("its own now", x.move(0, 1));
        due("the first one", x.move(0, 0), 1);
        Looks.refused("move(0, 0)", SiteEdges::twoThings, y -> y.move(0, 0));
    }

    @Edge(promise = 8, says = "of another LAND,")
    static void movesToTheOtherLand() {
        CountTreaty x = twoThings();
        none("the other land's", x.move(0, 4), x.move(0, 5));
        due("made", x.make(4, 0, 1, 1), 2);
        none("this land's", x.move(2, 0), x.move(2, 3));
        due("its own land's", x.move(2, 5), 0);
    }

    @Edge(promise = 8, says = "without WAY,")
    static void movesWithoutAWay() {
        CountTreaty x = twoThings();
        due("site", x.site(0, 0, false, false), 6);
        none("no road goes there", x.move(0, 6));
        x.road(3, 6, 60);
        due("one goes", x.move(0, 6), 0);
        due("the way's last day", x.where(0, 65), 100);
        due("the day behind", x.where(0, 66), 6);
    }

    @Edge(promise = 8, says = "the DAY of coming is beyond 1999,")
    static void movesBeyondTheLastDay() {
        CountTreaty x = go(twoThings(), 1993);
        due("six days: it comes on 1999", x.move(0, 3), 0);
        due("there", x.where(0, 1999), 3);
        x.days(1);
        none("six days from 1994 on", x.move(1, 0));
        due("four days", x.move(1, 1), 1);
        CountTreaty y = go(twoThings(), 1999);
        none("on the last day", y.move(0, 1));
        Looks.refused("on the last day", () -> go(twoThings(), 1999), z -> z.move(0, 1));
    }

    /** Ten things that have moved ten times each. */
    private static CountTreaty hundredMoves() {
        CountTreaty x = plainLands();
        for (int i = 0; i < 10; i++) x.make(0, 0, 1, 1);
        for (int i = 0; i < 100; i++) {
            due("move", x.move(i % 10, i / 10 % 2 == 0 ? 1 : 0), i);
            if (i % 10 == 9) x.days(2);
        }
        return x;
    }

    @Edge(promise = 8, says = "or there are 100.")
    static void theHundredAndFirstMove() {
        CountTreaty x = hundredMoves();
        none("the 101st", x.move(0, 1));
        due("about(4)", x.about(4), 100);
        due("where it is", x.where(0, 1999), 0);
        due("its moves", x.thing(9, 6), 10);
        Looks.refused("the 101st", SiteEdges::hundredMoves, y -> y.move(0, 1));
    }

    @Edge(promise = 8, says = "MOVES are numbered (100 at most).")
    static void aHundredMoves() {
        CountTreaty x = hundredMoves();
        due("the last act is the hundredth move", x.act(109, 0), 1);
        none("there is none behind it", x.act(110, 0));
    }

    // Promise 9

    @Edge(promise = 9, says = "A STEP: how many it has then.")
    static void stepsAreCounted() {
        CountTreaty x = twoThings();
        read(x, "steps 9 wait 0;", 0);
        for (int i = 1; i < 10; i++) {
            due("step", x.step(1), i);
            x.days(1);
        }
        none("the tenth", x.step(1));
        due("thing(1, 5)", x.thing(1, 5), 9);
    }

    @Edge(promise = 9, says = "NONE: others,")
    static void stepsOfNothing() {
        CountTreaty x = twoThings();
        none("no such thing", x.step(-1), x.step(2), x.step(FAR), x.step(LOW));
        due("the last thing", x.step(1), 1);
        Looks.refused("step(2)", SiteEdges::twoThings, y -> y.step(2));
    }

    @Edge(promise = 9, says = "it isn't at a scrap SITE,")
    static void stepsElsewhere() {
        CountTreaty x = plainLands();
        for (int i = 0; i < 6; i++) x.make(i, 0, 1, 1);
        each("step", thing -> x.step(thing), -1, -1, -1, 1, -1, -1);
        x.move(2, 3);
        x.days(1);
        none("on the road there", x.step(2));
        x.days(1);
        due("on the day of coming", x.step(2), 1);
        x.move(2, 1);
        x.days(1);
        none("on the road from there", x.step(2));
        Looks.refused("step at a base", SiteEdges::twoThings, y -> y.step(0));
    }

    @Edge(promise = 9, says = "it had one on this DAY,")
    static void twoStepsOnADay() {
        Supplier<CountTreaty> once = () -> {
            CountTreaty x = twoThings();
            due("the first", x.step(1), 1);
            return x;
        };
        CountTreaty x = once.get();
        none("the second on a day", x.step(1));
        x.make(3, 0, 1, 1);
        due("another thing's", x.step(2), 1);
        x.days(1);
        due("on the next day", x.step(1), 2);
        none("and no more", x.step(1));
        Looks.refused("a second step", once, y -> y.step(1));
    }

    @Edge(promise = 9, says = "or it is GONE.")
    static void stepsOfWhatIsGone() {
        Supplier<CountTreaty> gone = () -> {
            CountTreaty x = twoThings();
            read(x, "steps 1 wait 0;", 0);
            x.step(1);
            x.days(1);
            return x;
        };
        none("gone", gone.get().step(1));
        due("its steps stay", gone.get().thing(1, 5), 1);
        Looks.refused("a step of what is gone", gone, y -> y.step(1));
    }

    @Edge(promise = 9, says = "A STEP: at a scrap SITE, one a DAY at most; with as many as THE TREATY of that DAY tells it is GONE from that DAY on.")
    static void goneWithAsManySteps() {
        CountTreaty x = twoThings();
        x.step(1);
        x.days(1);
        due("one less than the 3 without a text", x.step(1), 2);
        due("it is there", x.where(1, 1999), 3);
        x.days(1);
        due("as many", x.step(1), 3);
        due("from that day on", x.where(1, 2), 101);
        due("not the day ahead", x.where(1, 1), 3);
        for (int steps = 1; steps <= 9; steps += 4) {
            CountTreaty y = twoThings();
            read(y, "steps " + steps + " wait 0;", 0);
            for (int i = 1; i <= steps; i++) {
                due("step", y.step(1), i);
                due("where with " + i + " of " + steps, y.where(1, 1999), i == steps ? 101 : 3);
                y.days(1);
            }
        }
    }

    @Edge(promise = 9, says = "with as many as THE TREATY of that DAY tells it is GONE from that DAY on.")
    static void asManyAsTheTreatyOfThatDayTells() {
        CountTreaty x = twoThings();
        read(x, "steps 2 wait 0;", 2);
        x.step(1);
        x.days(1);
        due("by the treaty of the day ahead of the text's", x.step(1), 2);
        due("it isn't gone", x.where(1, 1999), 3);
        x.days(1);
        due("by the text's day it has more", x.step(1), 3);
        due("gone", x.where(1, 2), 101);
        due("not the day ahead", x.where(1, 1), 3);
    }

    // Promise 10

    @Edge(promise = 10, says = "A SEAL is put: its number.")
    static void sealsAreNumberedFromNought() {
        CountTreaty x = plainLands();
        due("seal", x.seal(5), 0);
        none("a refused one takes no number", x.seal(5));
        due("seal", x.seal(0), 1);
        due("about(5)", x.about(5), 2);
    }

    @Edge(promise = 10, says = "NONE: no such SITE,")
    static void sealsOnNoSite() {
        CountTreaty x = plainLands();
        none("no such site", x.seal(-1), x.seal(6), x.seal(FAR), x.seal(LOW));
        Looks.refused("seal(6)", SiteEdges::plainLands, y -> y.seal(6));
    }

    @Edge(promise = 10, says = "a whole one is there,")
    static void aSealWhereAWholeOneIs() {
        CountTreaty x = twoThings();
        due("the first", x.seal(0), 0);
        none("whole on its day", x.seal(0));
        x.move(0, 1);
        none("what leaves on its day doesn't break it", x.seal(0));
        due("the site to which it comes", x.seal(1), 1);
        x.days(1);
        none("on the day ahead of the coming", x.seal(1));
        x.days(1);
        due("on the day of coming", x.seal(1), 2);
        none("the new one is whole", x.seal(1));
        x.days(1);
        x.move(0, 0);
        due("on the day of leaving", x.seal(1), 3);
        none("the other site's is whole", x.seal(0));
        Looks.refused("seal(0)", () -> {
            CountTreaty y = twoThings();
            y.seal(0);
            return y;
        }, y -> y.seal(0));
    }

    /** Forty SEALS: on ten SITES, each broken as its thing leaves and as the next one comes. */
    private static CountTreaty fortySeals() {
        CountTreaty x = new CountTreaty();
        for (int i = 0; i < 10; i++) x.site(0, 0, false, false);
        for (int i = 0; i < 10; i++) x.road(i, (i + 1) % 10, 1);
        for (int i = 0; i < 10; i++) x.make(i, 0, 1, 1);
        for (int n = 0; n < 40; n++) {
            if (n % 10 == 0 && n > 0) x.days(1);
            for (int i = 0; n % 20 == 10 && i < 10; i++) x.move(i, (i + n / 20 + 1) % 10);
            due("seal", x.seal(n % 10), n);
        }
        return x;
    }

    @Edge(promise = 10, says = "or there are 40.")
    static void theFortyFirstSeal() {
        CountTreaty x = fortySeals();
        x.days(1);
        due("the last one is broken", x.whole(39, 4), 0);
        none("the 41st", x.seal(9), x.seal(0));
        due("about(5)", x.about(5), 40);
        Looks.refused("the 41st", () -> go(fortySeals(), 4), y -> y.seal(9));
    }

    // Promise 11

    @Edge(promise = 11, says = "n DAYS go by (1 .. 400): the clock.")
    static void oneToFourHundredDays() {
        CountTreaty x = new CountTreaty();
        none("none, or back", x.days(0), x.days(-1), x.days(LOW));
        none("too many", x.days(401), x.days(FAR));
        due("one", x.days(1), 1);
        due("the most", x.days(400), 401);
        due("about(0)", x.about(0), 401);
        Looks.refused("days(0)", SiteEdges::twoThings, y -> y.days(0));
        Looks.refused("days(401)", SiteEdges::twoThings, y -> y.days(401));
    }

    @Edge(promise = 11, says = "NONE for others, or beyond 1999.")
    static void daysBeyondTheLast() {
        CountTreaty x = go(new CountTreaty(), 1600);
        none("to 2000", x.days(400));
        due("to 1999", x.days(399), 1999);
        none("beyond", x.days(1), x.days(400));
        due("about(0)", x.about(0), 1999);
        Looks.refused("days(1)", () -> go(twoThings(), 1999), y -> y.days(1));
    }

    @Edge(promise = 11, says = "DAYS 0 .. 1999: the clock's at first 0.")
    static void theClocksDays() {
        CountTreaty x = new CountTreaty();
        due("at first", x.about(0), 0);
        due("on the last day", go(x, 1999).about(0), 1999);
    }

    // Promise 12

    @Edge(promise = 12, says = "WHERE a thing is on a DAY: a SITE; 100 on the ROAD; 101 GONE; 102 not MADE yet.")
    static void whereAThingIs() {
        CountTreaty x = go(plainLands(), 5);
        x.make(1, 0, 1, 1);
        due("the day ahead of its making", x.where(0, 4), 102);
        due("day 0", x.where(0, 0), 102);
        due("its making", x.where(0, 5), 1);
        x.days(1);
        x.move(0, 3);
        due("the day ahead of its leaving", x.where(0, 5), 1);
        due("its leaving", x.where(0, 6), 100);
        due("the day ahead of its coming", x.where(0, 9), 100);
        due("its coming", x.where(0, 10), 3);
        x.days(4);
        read(x, "steps 1 wait 0;", 10);
        x.step(0);
        due("gone", x.where(0, 10), 101);
        due("the day ahead", x.where(0, 9), 100);
        due("ever after", x.where(0, 1999), 101);
    }

    @Edge(promise = 12, says = "NONE for others.")
    static void whereNothingIs() {
        CountTreaty x = twoThings();
        none("no such thing", x.where(-1, 0), x.where(2, 0), x.where(FAR, 0), x.where(LOW, 0));
        none("no such day", x.where(0, -1), x.where(0, 2000), x.where(0, FAR), x.where(0, LOW));
        due("the last day", x.where(1, 1999), 3);
        due("the first day", x.where(0, 0), 0);
    }

    @Edge(promise = 12, says = "A thing is at a SITE, on the ROAD, or GONE.")
    static void onTheRoadNeitherHereNorThere() {
        CountTreaty x = twoThings();
        x.move(0, 1);
        x.days(1);
        x.visit(1, 0);
        x.visit(1, 1);
        each("what is on the road isn't seen at either site", visit -> x.saw(visit, 0), 0, 0);
        x.days(2);
        x.visit(1, 1);
        due("it came", x.saw(2, 0), 1);
    }

    @Edge(promise = 12, says = "MOVED on DAY d to a SITE of its LAND: on the ROAD on the DAYS d to d + WAY - 1, there from d + WAY on;")
    static void fromDayToDayOfAMove() {
        CountTreaty x = twoThings();
        x.road(0, 1, 1);
        x.days(3);
        due("a way of one day", x.move(0, 1), 0);
        each("where", day -> x.where(0, day), 0, 0, 0, 100, 1, 1);
        due("a way of five days (one road is short now)", x.move(1, 0), 1);
        for (int day = 0; day < 12; day++) due("where on " + day, x.where(1, day), day < 3 ? 3 : day < 8 ? 100 : 0);
        x.road(0, 3, 1);
        due("a road that is built later doesn't bring it sooner", x.where(1, 7), 100);
    }

    @Edge(promise = 12, says = "WHERE on a DAY: where it is as that DAY is over (as far as is known by acts up to now).")
    static void asThatDayIsOver() {
        CountTreaty x = twoThings();
        due("as nothing is done", x.where(0, 2), 0);
        x.move(0, 1);
        due("as it moved", x.where(0, 2), 1);
        x.days(2);
        x.move(0, 2);
        due("as it moved on, on the day of coming", x.where(0, 2), 100);
        due("the day ahead", x.where(0, 1), 100);
        due("at the next site", x.where(0, 4), 2);
        CountTreaty y = twoThings();
        y.move(0, 1);
        y.move(1, 2);
        y.days(5);
        y.move(1, 0);
        y.move(0, 0);
        each("one thing, by its own moves", day -> y.where(0, day), 100, 100, 1, 1, 1, 100, 100, 0, 0, 0);
        each("the other one", day -> y.where(1, day), 100, 100, 2, 2, 2, 100, 100, 100, 100, 0);
    }

    @Edge(promise = 12, says = "(as far as is known by acts up to now).")
    static void whereByAHundredMoves() {
        CountTreaty x = new CountTreaty();
        x.site(0, 0, false, false);
        x.site(0, 0, false, false);
        x.road(0, 1, 2);
        x.make(0, 0, 1, 1);
        x.days(1);
        for (int i = 0; i < 100; i++) {
            due("move", x.move(0, 1 - i % 2), i);
            x.days(2);
        }
        each("by the first ones", day -> x.where(0, day), 0, 100, 100, 100, 100, 100);
        due("its moves", x.thing(0, 6), 100);
        none("the 101st", x.move(0, 1));
        each("by the last one", day -> x.where(0, 199 + day), 100, 100, 0, 0);
    }

    // Promise 13

    @Edge(promise = 13, says = "Of a thing: 0 SORT, 1 LENGTH, 2 WEIGHT, 3 its LAND, 4 the DAY on which it was MADE, 5 STEPS, 6 MOVES.")
    static void whatAThingIs() {
        CountTreaty x = go(plainLands(), 7);
        x.make(5, 3, 200, 500);
        x.make(1, 0, 1, 1);
        each("at first", what -> x.thing(0, what), 3, 200, 500, 1, 7, 0, 0);
        x.move(1, 3);
        due("a move counts as it begins", x.thing(1, 6), 1);
        x.days(4);
        x.step(1);
        x.days(1);
        x.step(1);
        x.move(1, 2);
        each("later", what -> x.thing(1, what), 0, 1, 1, 0, 7, 2, 2);
    }

    @Edge(promise = 13, says = "NONE for others.")
    static void noSuchThing() {
        CountTreaty x = twoThings();
        none("no such thing", x.thing(-1, 0), x.thing(2, 0), x.thing(FAR, 6), x.thing(LOW, 6));
        none("nothing such of it", x.thing(0, -1), x.thing(0, 7), x.thing(0, 8), x.thing(0, 9), x.thing(0, 10), x.thing(0, 11), x.thing(0, FAR), x.thing(0, LOW));
        none("nor of the last one", x.thing(1, -1), x.thing(1, 7), x.thing(1, FAR), x.thing(1, LOW));
        due("the last thing", x.thing(1, 6), 0);
    }

    // Promise 14

    @Edge(promise = 14, says = "Whether a SEAL was whole as a DAY was over (1, 0).")
    static void wholeOrBroken() {
        CountTreaty x = twoThings();
        x.seal(0);
        x.seal(1);
        x.days(1);
        x.move(0, 1);
        due("the day ahead of the leaving", x.whole(0, 0), 1);
        due("the leaving", x.whole(0, 1), 0);
        due("the day ahead of the coming", x.whole(1, 2), 1);
        due("the coming", x.whole(1, 3), 0);
        due("ever after", x.whole(1, 1999), 0);
    }

    @Edge(promise = 14, says = "NONE: none such, or it was put later.")
    static void noSuchSeal() {
        CountTreaty x = twoThings();
        none("without any", x.whole(0, 0), x.whole(-1, 0));
        x.days(3);
        x.seal(0);
        none("none such", x.whole(1, 3), x.whole(-1, 3), x.whole(FAR, 3), x.whole(LOW, 3));
        none("put later", x.whole(0, 2), x.whole(0, 0));
        none("no day", x.whole(0, -1), x.whole(0, 2000), x.whole(0, LOW), x.whole(0, FAR));
        due("on its day", x.whole(0, 3), 1);
        due("on the last day", x.whole(0, 1999), 1);
    }

    @Edge(promise = 14, says = "SEALS: put on a SITE that has no whole one; it is BROKEN from the DAY on (of all that come behind the one on which it was put) on which a thing leaves or comes there by a MOVE.")
    static void brokenBehindItsDay() {
        CountTreaty x = twoThings();
        x.move(0, 1);
        x.seal(0);
        x.days(2);
        x.seal(1);
        due("what left on its day, ahead of it", x.whole(0, 1999), 1);
        due("what came on its day", x.whole(1, 1999), 1);
        x.move(0, 2);
        due("what leaves on its day, behind it", x.whole(1, 1999), 1);
        x.days(1);
        x.move(1, 1);
        due("what comes later, by a move of now", x.whole(1, 7), 0);
        due("the day ahead", x.whole(1, 6), 1);
        due("a site that nothing leaves", x.whole(0, 1999), 1);
    }

    @Edge(promise = 14, says = "(What is MADE or GONE doesn't break it.)")
    static void whatIsMadeOrGone() {
        CountTreaty x = twoThings();
        read(x, "steps 1 wait 0;", 0);
        x.seal(1);
        x.seal(3);
        x.days(1);
        due("made", x.make(1, 0, 1, 1), 2);
        due("gone", x.step(1), 1);
        due("gone", x.where(1, 1), 101);
        each("whole", seal -> x.whole(seal, 1999), 1, 1);
        none("so none can be put", x.seal(1), x.seal(3));
    }
}
