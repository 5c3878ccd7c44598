/** For each promise of ../shared/DOC.md: ordinary inputs, the edges that it names, wrong inputs. */
public final class PromisesTest extends Dues {
    private static int promise = 0;

    private static void newObject() {
        CountTreaty x = new CountTreaty();
        due("NONE", CountTreaty.NONE, -1);
        for (int i = 0; i < 15; i++) due("about(" + i + ")", x.about(i), 0);
        due("about(15)", x.about(15), 40);
        none("nothing is there", x.act(0, 0), x.thing(0, 0), x.where(0, 0), x.whole(0, 0), x.saw(0, 0), x.judged(0, 0), x.fault(0), x.fault(1));
        x.site(0, 0, false, false);
        x.days(5);
        due("the image is the new object", x.back(), 0);
        due("no sites in it", x.about(1), 0);
        firstSpans();
    }

    /** What leaves is 1 long, 1 heavy, or 200, 500: it fits the first spans; RECORDS err by 2 and 5 at first. */
    private static void firstSpans() {
        CountTreaty x = new CountTreaty();
        x.site(0, 0, true, false);
        x.site(0, 0, true, false);
        x.road(0, 1, 1);
        x.sort(1, 9, 10, 9, 10);
        x.sort(2, 9, 10, 109, 110);
        x.sort(3, 9, 10, 300, 300);
        x.image();
        x.rules(0, 0, 40);
        x.make(0, 0, 1, 1);
        x.make(0, 0, 200, 500);
        x.days(1);
        x.visit(1, 0);
        x.move(0, 1);
        span("the first sort's least spans", x, 0, 0, 1, 1, 1, 1);
        x.move(1, 1);
        span("the first sort's greatest spans", x, 0, 0, 1, 1, 0, 0);
        x.back();
        x.sort(0, 100, 100, 1, 1);
        int[][] beside = {{7, 4, 1}, {12, 15, 1}, {6, 9, 0}, {13, 9, 0}, {9, 3, 0}, {9, 16, 0}, {10, 104, 2}, {10, 115, 2}, {10, 103, 0}, {10, 116, 0}};
        for (int[] b : beside) x.make(0, 1, b[0], b[1]);
        x.days(1);
        x.visit(1, 0);
        for (int i = 0; i < beside.length; i++) {
            x.image();
            x.move(i, 1);
            span("sort 1 as " + beside[i][0] + ", " + beside[i][1] + " left", x, 0, 1, 1, 1, beside[i][2] == 1 ? 9 : 10, beside[i][2] == 1 ? 9 : 10);
            if (beside[i][2] == 2) none("sort 2 of which none was there", x.possible(0, 2, 1, 1, true));
            else span("sort 2 as it didn't", x, 0, 2, 1, 1, 0, 0);
            x.back();
        }
    }

    private static void site() {
        CountTreaty x = new CountTreaty();
        none("wrong ones", x.site(-1, 0, true, true), x.site(2, 0, true, true), x.site(0, -1, true, true), x.site(0, 4, true, true), x.site(LOW, FAR, true, true));
        for (int i = 0; i < 10; i++) due("site", x.site(i % 2, i % 4, true, false), i);
        none("the 11th", x.site(0, 0, false, false));
        due("about(1)", x.about(1), 10);
    }

    private static void road() {
        CountTreaty x = lands(false);
        none("wrong ones", x.road(0, 0, 5), x.road(0, 4, 5), x.road(0, 6, 5), x.road(-1, 0, 5), x.road(0, 1, 0), x.road(0, 1, 61), x.road(FAR, LOW, 5));
        due("of one day", x.road(0, 1, 1), 4);
        due("of 60 days", x.road(5, 4, 60), 5);
        for (int i = 6; i < 30; i++) due("road", x.road(0, 1, 9), i);
        none("the 31st", x.road(0, 1, 9));
        due("about(2)", x.about(2), 30);
    }

    private static void way() {
        CountTreaty x = lands(false);
        due("by three roads", x.way(0, 3), 6);
        due("and back", x.way(3, 0), 6);
        due("to itself", x.way(5, 5), 0);
        due("the other land's", x.way(5, 4), 7);
        none("none there is", x.way(0, 4), x.way(0, 6), x.way(6, 6), x.way(-1, 0), x.way(0, FAR), x.way(LOW, LOW));
        x.road(0, 3, 3);
        due("a shorter one", x.way(0, 3), 3);
        due("and what it shortens", x.way(0, 2), 4);
        due("and what not", x.way(1, 2), 2);
        x.site(0, 0, false, false);
        none("without roads", x.way(0, 6), x.way(6, 0));
        x.road(6, 0, 1);
        x.road(6, 3, 1);
        due("through the new one", x.way(0, 3), 2);
        due("from further off", x.way(1, 3), 4);
    }

    private static void sort() {
        CountTreaty x = lands(true);
        yes("all spans", x.sort(3, 1, 200, 1, 500));
        yes("the least", x.sort(0, 1, 1, 1, 1));
        yes("the greatest", x.sort(1, 200, 200, 500, 500));
        no("sort 4", x.sort(4, 1, 1, 1, 1));
        no("sort -1", x.sort(-1, 1, 1, 1, 1));
        no("shortest 0", x.sort(2, 0, 1, 1, 1));
        no("longest 201", x.sort(2, 1, 201, 1, 1));
        no("lightest 0", x.sort(2, 1, 1, 0, 1));
        no("heaviest 501", x.sort(2, 1, 1, 1, 501));
        no("turned lengths", x.sort(2, 9, 8, 1, 1));
        no("turned weights", x.sort(2, 1, 1, 9, 8));
        x.make(4, 3, 1, 1);
        no("a thing was made", x.sort(2, 1, 9, 1, 9));
        x.back();
        x.site(0, 0, true, false);
        yes("none is made in the image", x.sort(2, 1, 9, 1, 9));
    }

    private static void rules() {
        CountTreaty x = lands(true);
        yes("the least", x.rules(0, 0, 1));
        due("seen", x.about(15), 1);
        yes("the greatest", x.rules(50, 50, 200));
        due("seen", x.about(15), 200);
        no("el -1", x.rules(-1, 0, 1));
        no("el 51", x.rules(51, 0, 1));
        no("ew -1", x.rules(0, -1, 1));
        no("ew 51", x.rules(0, 51, 1));
        no("seen 0", x.rules(0, 0, 0));
        no("seen 201", x.rules(0, 0, 201));
        due("nothing is changed", x.about(15), 200);
        x.make(0, 0, 1, 1);
        no("a thing was made", x.rules(1, 1, 1));
        due("nothing is changed", x.about(15), 200);
    }

    private static void make() {
        CountTreaty x = lands(false);
        none("wrong ones", x.make(6, 0, 1, 1), x.make(-1, 0, 1, 1), x.make(0, 4, 1, 1), x.make(0, -1, 1, 1));
        none("wrong measures", x.make(0, 0, 0, 1), x.make(0, 0, 201, 1), x.make(0, 0, 1, 0), x.make(0, 0, 1, 501));
        x.sort(0, 100, 110, 1, 1);
        due("beyond its sort's spans", x.make(0, 0, 200, 500), 0);
        due("of the other land", x.make(4, 3, 1, 1), 1);
        x.days(1);
        none("later not at a base, a store, a scrap site", x.make(0, 0, 1, 1), x.make(2, 0, 1, 1), x.make(3, 0, 1, 1));
        for (int i = 2; i < 40; i++) due("at a plant", x.make(i % 2 == 0 ? 1 : 5, 0, 1, 1), i);
        none("the 41st", x.make(1, 0, 1, 1));
        due("about(3)", x.about(3), 40);
    }

    private static void move() {
        CountTreaty x = lands(false);
        x.make(0, 0, 1, 1);
        none("wrong ones", x.move(1, 1), x.move(-1, 1), x.move(0, 6), x.move(0, -1), x.move(0, 0), x.move(0, 4), x.move(LOW, FAR));
        due("move", x.move(0, 3), 0);
        none("on the road", x.move(0, 2));
        x.days(5);
        none("still on the road", x.move(0, 2));
        x.days(1);
        due("there, and on at once", x.move(0, 2), 1);
        due("so it is on the road again", x.where(0, 6), 100);
        x.days(400); x.days(400); x.days(400); x.days(400); x.days(390);
        due("clock", x.days(2), 1998);
        none("it would come on day 2000", x.move(0, 1));
        x.road(2, 3, 1);
        due("it comes on day 1999", x.move(0, 3), 2);
        due("about(4)", x.about(4), 3);
        x = lands(false);
        for (int i = 0; i < 40; i++) x.make(0, 0, 1, 1);
        for (int i = 0; i < 80; i++) due("move", x.move(i % 40, i / 40 * 2 + 1), i < 40 ? i : -1);
        x.days(2);
        for (int i = 0; i < 40; i++) due("move", x.move(i, 2), 40 + i);
        x.days(2);
        for (int i = 0; i < 21; i++) due("move", x.move(i, 3), i < 20 ? 80 + i : -1);
        x = lands(false);
        x.make(3, 0, 1, 1);
        for (int i = 0; i < 3; i++) { x.step(0); x.days(1); }
        none("it is gone", x.move(0, 2));
    }

    private static void step() {
        CountTreaty x = lands(false);
        x.make(3, 0, 1, 1);
        x.make(2, 0, 1, 1);
        none("wrong ones", x.step(1), x.step(2), x.step(-1), x.step(FAR));
        due("the first", x.step(0), 1);
        none("another one on this day", x.step(0));
        x.move(1, 3);
        x.days(1);
        none("on the road", x.step(1));
        due("the second", x.step(0), 2);
        due("it is there", x.where(0, 1), 3);
        x.days(1);
        due("it came", x.step(1), 1);
        due("the third", x.step(0), 3);
        due("gone", x.where(0, 2), 101);
        x.days(1);
        none("it is gone", x.step(0));
        due("the steps go with it", x.move(1, 2), 1);
        x.days(2);
        x.move(1, 3);
        x.days(2);
        read(x, "steps 1 wait 0;", x.about(0));
        due("with more than the treaty tells", x.step(1), 2);
        due("it is gone, too", x.where(1, x.about(0)), 101);
        due("but not the day ahead", x.where(1, x.about(0) - 1), 100);
    }

    private static void seal() {
        CountTreaty x = lands(false);
        none("no site", x.seal(6), x.seal(-1));
        x.make(0, 0, 1, 1);
        due("seal", x.seal(0), 0);
        none("a whole one is there", x.seal(0));
        x.move(0, 1);
        none("not broken by what leaves on its day", x.seal(0));
        x.days(1);
        due("another site", x.seal(1), 1);
        none("what comes later hasn't broken it yet", x.seal(1));
        x.days(1);
        due("now it has", x.seal(1), 2);
        none("the new one isn't broken on its day", x.seal(1));
        x.move(0, 0);
        none("nor by what leaves on it", x.seal(1));
        for (int i = 3; i < 40; i++) {
            x.days(2);
            due("seal", x.seal(i % 2 == 1 ? 0 : 1), i);
            x.move(0, i % 2 == 1 ? 1 : 0);
        }
        x.days(2);
        none("the 41st", x.seal(1), x.seal(3));
        due("about(5)", x.about(5), 40);
        x = lands(false);
        x.seal(1);
        x.seal(3);
        x.make(3, 0, 1, 1);
        x.days(1);
        x.make(1, 0, 1, 1);
        none("what is made doesn't break it", x.seal(1));
        x.step(0); x.days(1); x.step(0); x.days(1);
        due("gone", x.step(0), 3);
        none("what is gone doesn't break it", x.seal(3));
    }

    private static void days() {
        CountTreaty x = new CountTreaty();
        none("wrong ones", x.days(0), x.days(-1), x.days(401), x.days(FAR), x.days(LOW));
        for (int i = 1; i < 5; i++) due("days(400)", x.days(400), 400 * i);
        none("beyond 1999", x.days(400));
        due("the last day", x.days(399), 1999);
        none("beyond it", x.days(1));
        due("about(0)", x.about(0), 1999);
    }

    private static void where() {
        CountTreaty x = lands(false);
        x.make(3, 0, 1, 1);
        x.days(3);
        x.make(1, 0, 1, 1);
        x.move(1, 3);
        due("not made", x.where(1, 2), 102);
        due("on the road", x.where(1, 3), 100);
        due("on the road", x.where(1, 6), 100);
        due("there", x.where(1, 7), 3);
        due("ever after", x.where(1, 1999), 3);
        none("others", x.where(2, 0), x.where(-1, 0), x.where(0, -1), x.where(0, 2000), x.where(0, FAR));
        x.step(0); x.days(1); x.step(0); x.days(1); x.step(0);
        due("gone", x.where(0, 5), 101);
        due("gone", x.where(0, 1999), 101);
        due("ahead of that", x.where(0, 4), 3);
        x.days(2);
        x.move(1, 2);
        due("its day of coming, and of leaving", x.where(1, 7), 100);
        due("its first move", x.where(1, 6), 100);
        due("its second move", x.where(1, 8), 100);
        due("there", x.where(1, 9), 2);
        x.road(1, 3, 1);
        due("a later road changes no move", x.where(1, 4), 100);
        x.image();
        x.make(1, 0, 1, 1);
        x.days(1);
        x.move(2, 3);
        x.days(1);
        due("ahead of its only move", x.where(2, 7), 1);
        due("ahead of it, not made", x.where(2, 6), 102);
        x.back();
        due("made again", x.make(1, 0, 1, 1), 2);
        due("without the moves of ahead", x.thing(2, 6), 0);
        due("where it was made", x.where(2, 1999), 1);
    }

    private static void thing() {
        CountTreaty x = lands(false);
        x.make(4, 2, 33, 44);
        x.days(8);
        x.make(1, 3, 200, 500);
        int[] first = {2, 33, 44, 1, 0, 0, 0};
        for (int i = 0; i < 7; i++) due("thing(0, " + i + ")", x.thing(0, i), first[i]);
        x.move(1, 3);
        x.days(4);
        x.step(1);
        int[] second = {3, 200, 500, 0, 8, 1, 1};
        for (int i = 0; i < 7; i++) due("thing(1, " + i + ")", x.thing(1, i), second[i]);
        none("others", x.thing(2, 0), x.thing(-1, 0), x.thing(0, 7), x.thing(0, -1), x.thing(0, FAR), x.thing(0, LOW));
    }

    private static void whole() {
        CountTreaty x = lands(false);
        x.make(0, 0, 1, 1);
        x.days(3);
        x.seal(0);
        x.seal(1);
        x.seal(2);
        x.move(0, 1);
        none("put later, none such", x.whole(0, 2), x.whole(3, 3), x.whole(-1, 3), x.whole(0, -1), x.whole(0, 2000));
        due("left on its own day", x.whole(0, 3), 1);
        due("and ever after", x.whole(0, 1999), 1);
        due("ahead of the coming", x.whole(1, 4), 1);
        due("the coming", x.whole(1, 5), 0);
        due("ever after", x.whole(1, 1999), 0);
        x.days(2);
        x.move(0, 2);
        due("passing through isn't seen before", x.whole(2, 6), 1);
        due("the coming", x.whole(2, 7), 0);
        x.days(2);
        due("a new one", x.seal(1), 3);
        due("the old one stays broken", x.whole(1, 1999), 0);
        due("the new one is whole", x.whole(3, 1999), 1);
        x.days(1);
        x.move(0, 0);
        due("passing by a site with a seal doesn't break it", x.whole(3, 1999), 1);
    }

    private static void feed() {
        CountTreaty x = new CountTreaty();
        for (int i = 1; i < 15; i++) due("feed", x.feed(0, 0, 0, 0, 0), 20 * i);
        due("300", x.feed(0, 0, 0, 0, 0), 300);
        none("more than 300", x.feed(0, 0, 0, 0, 0));
        x.end(281);
        none("more than 300", x.feed(0, 0, 0, 0, 0));
        due("none come", x.about(12), 281);
        x = new CountTreaty();
        x.feed(0x74656C6C, 0x20393B20, 0x20202020, 0x20202020, 0x20202020);
        due("the highest byte first", x.text(0), 0);
        due("tell 9", x.says(0, 1), 9);
        x.feed(0x74656C6C, 0x203880FF, 0x20202020, 0x20202020, 0x20202020);
        none("bytes above 127 are none", x.text(0));
        due("at their place", x.fault(1), 6);
    }

    private static void end() {
        CountTreaty x = new CountTreaty();
        due("end(0)", x.end(0), 0);
        none("not so many", x.end(1), x.end(-1), x.end(FAR), x.end(LOW));
        x.feed(0x74656C6C, 0x20393B78, 0, 0, 0);
        none("not so many", x.end(21), x.end(-1));
        due("nothing is done", x.about(12), 20);
        due("end(20)", x.end(20), 20);
        due("end(7)", x.end(7), 7);
        due("about(12)", x.about(12), 7);
        due("its first bytes", x.text(0), 0);
        due("the tape is empty", x.about(12), 0);
    }

    private static void text() {
        CountTreaty x = new CountTreaty();
        due("an empty one", x.text(0), 0);
        due("fault(0)", x.fault(0), 0);
        none("fault(1)", x.fault(1));
        x.days(5);
        type(x, "tell 3;");
        none("no such day", x.text(4), x.text(-1), x.text(2000), x.text(FAR));
        due("the tape stays", x.about(12), 7);
        due("from the clock's on", x.text(5), 1);
        due("to the last", read(x, "tell 4;", 1999), 2);
        none("a fault", read(x, "tell", 5));
        due("it isn't kept", x.about(6), 3);
        for (int i = 3; i < 10; i++) due("text", read(x, "tell " + i + ";", 5), i);
        type(x, "tell 77;");
        none("the 11th", x.text(5));
        due("the tape stays", x.about(12), 8);
        due("the fault stays", x.fault(0), 0);
        due("the one read latest", x.says(5, 1), 9);
    }

    private static void fault() {
        CountTreaty x = new CountTreaty();
        none("ahead of any", x.fault(0), x.fault(1));
        type(x, "none");
        none("not read", x.text(-1), x.fault(0));
        read(x, "tell 1;", 0);
        due("fault(0)", x.fault(0), 0);
        none("others", x.fault(1), x.fault(2), x.fault(-1), x.fault(FAR));
        fault("", 0, -1);
        fault(" \n ", 0, -1);
        fault("tell5;steps1wait1;limit\n9from1to1 ;", 0, -1);
        fault("counts sort=1 or length<2 and weight<=3 or class>4 or land>=5 or 6#sort;", 0, -1);
        fault("veil not(sort=1or(length=2and not land=3));", 0, -1);
        fault("counts 0001=1;tell 00360;", 0, -1);
        fault("limit 99 from 1999 to 1999;tell 360;visits 99;steps 9 wait 99;answer 360;counts 9999=9999;", 0, -1);
        fault("limit 0 from 0 to 0;tell 0;visits 0;steps 1 wait 0;answer 0;", 0, -1);
        fault("counts landa=1;", 1, 7);
        fault("counts landz=1;", 1, 7);
        fault("counts landA=1;", 1, 7);
        fault("counts landZ=1;", 1, 7);
        fault("counts land@=1;", 1, 11);
        fault("counts land[=1;", 1, 11);
        fault("counts land`=1;", 1, 11);
        fault("counts land{=1;", 1, 11);
        fault("tell 1/;", 1, 6);
        fault("tell 1:;", 1, 6);
        fault("\ttell 1;", 1, 0);
        fault("tell 1;!", 1, 7);
        fault("tell 1;5", 1, 7);
        fault("tell 1;or", 1, 7);
        fault("tell 1", 1, 6);
        fault("tell 1  ", 1, 8);
        fault("tell;", 1, 4);
        fault("tell x;", 1, 5);
        fault("tells 1;", 1, 0);
        fault("tel 1;", 1, 0);
        fault("tell 1;;", 1, 7);
        fault("limit 1 to 1;", 1, 8);
        fault("limit 1 from 1;", 1, 14);
        fault("steps 1;", 1, 7);
        fault("counts ;", 1, 7);
        fault("counts 1;", 1, 8);
        fault("counts 1=;", 1, 9);
        fault("counts 1= =1;", 1, 10);
        fault("counts 1=<1;", 1, 9);
        fault("counts 1< =1;", 1, 10);
        fault("counts (1=1;", 1, 11);
        fault("counts 1=1);", 1, 10);
        fault("counts 1=1 1=1;", 1, 11);
        fault("counts 1=1 or;", 1, 13);
        fault("counts 1=1 and or 1=1;", 1, 15);
        fault("counts 1=1 not 1=1;", 1, 11);
        fault("counts tell=1;", 1, 7);
        fault("counts Sort=1;", 1, 7);
        fault("counts sorts=1;", 1, 7);
        fault("counts sortlength=1;", 1, 7);
        fault("tell 361;", 2, 5);
        fault("tell 99999999999999999999;", 2, 5);
        fault("tell 4294967297;", 2, 5);
        fault("answer 361;", 2, 7);
        fault("visits 100;", 2, 7);
        fault("limit 100 from 0 to 1;", 2, 6);
        fault("limit 1 from 2000 to 1;", 2, 13);
        fault("limit 1 from 0 to 2000;", 2, 18);
        fault("limit 1 from 5 to 4;", 2, 18);
        fault("steps 0 wait 1;", 2, 6);
        fault("steps 10 wait 1;", 2, 6);
        fault("steps 1 wait 100;", 2, 13);
        fault("counts 10000=1;", 2, 7);
        fault("counts 1=10000;", 2, 9);
        fault("counts sort 10000;", 1, 12);
        fault("10000", 1, 0);
        fault("counts not(not(not(not(1=1))));", 0, -1);
        fault("counts not(not(not(not(not 1=1))));", 3, 23);
        fault("counts ((((((((1=1))))))));", 0, -1);
        fault("counts (((((((((1=1)))))))));", 3, 15);
        fault("counts ((((((((1=1)))))))) and not 1=1 or not not(1=1);", 0, -1);
        fault("counts not not not not not not not not 1=1;", 0, -1);
        fault("counts not not not not not not not not (1=1);", 3, 39);
        String sixteen = "tell 1;".repeat(16);
        fault(sixteen, 0, -1);
        fault(sixteen + " tell 1;", 4, 113);
        fault(sixteen + " tell", 4, 113);
        fault(sixteen + " 1", 1, 113);
        fault(sixteen + "\n\n", 0, -1);
    }

    private static void says() {
        CountTreaty x = new CountTreaty();
        int[] without = {99, 30, 99, 3, 0, 30};
        for (int i = 0; i < 6; i++) due("says(0, " + i + ")", x.says(0, i), without[i]);
        none("others", x.says(0, 6), x.says(0, -1), x.says(-1, 0), x.says(2000, 0), x.says(FAR, FAR));
        read(x, "limit 5 from 3 to 9;limit 4 from 9 to 9;limit 7 from 8 to 20;tell 1;tell 2;steps 2 wait 4;steps 9 wait 9;", 2);
        due("ahead of its day", x.says(1, 1), 30);
        due("the first one's", x.says(2, 1), 1);
        due("none has that day", x.says(2, 0), 99);
        due("one has", x.says(3, 0), 5);
        due("the least of two", x.says(8, 0), 5);
        due("the least of three", x.says(9, 0), 4);
        due("one has", x.says(20, 0), 7);
        due("none has", x.says(21, 0), 99);
        due("steps", x.says(1999, 3), 2);
        due("wait", x.says(1999, 4), 4);
        read(x, "tell 8;visits 3;", 5);
        read(x, "tell 9;answer 6;", 3);
        due("the one read latest isn't that from the latest day", x.says(5, 1), 8);
        due("ahead of that", x.says(4, 1), 9);
        due("what it hasn't is another one's", x.says(5, 5), 6);
        due("likewise", x.says(5, 3), 2);
        read(x, "tell 7;", 5);
        due("of like ones the latest", x.says(5, 1), 7);
        due("visits", x.says(5, 2), 3);
        due("visits ahead", x.says(4, 2), 99);
        read(x, "limit 50 from 100 to 100;", 6);
        due("a text with limits, none of which has the day", x.says(8, 0), 99);
        due("it is", x.says(100, 0), 50);
        x = lands(false);
        x.make(0, 0, 1, 1);
        read(x, "limit 5 from 0 to 1999;counts 1=2;", 0);
        read(x, "limit 2 from 0 to 1999;counts 1=1;", 9);
        due("the next text's clauses aren't this one's", x.says(8, 0), 5);
        due("nor its counts", x.counts(0, 0, 8), 0);
        due("the next text's", x.says(9, 0), 2);
        due("its counts", x.counts(0, 0, 9), 1);
        manyTexts();
    }

    /** Many TEXTS with the most CLAUSES: by going BACK none of them leaves anything behind. */
    private static void manyTexts() {
        CountTreaty x = lands(false);
        x.make(0, 1, 1, 1);
        x.image();
        for (int i = 0; i < 2; i++) {
            for (int k = 0; k < 10; k++) {
                due("text", read(x, "counts sort=0;".repeat(15) + "counts length=1 and sort=" + (i + k) % 2 + ";", k), k);
                due("counts by text " + i + ", " + k, x.counts(0, 0, k), (i + k) % 2);
            }
            x.back();
        }
        read(x, "counts " + "1=2 or ".repeat(40) + "1=1;", 0);
        due("a long one", x.counts(0, 0, 0), 1);
    }

    private static void counts() {
        CountTreaty x = lands(false);
        x.make(0, 1, 20, 300);
        x.make(4, 2, 50, 7);
        due("without a text", x.counts(0, 0, 0), 1);
        due("on the road", x.counts(0, -1, 1999), 1);
        none("others", x.counts(2, 0, 0), x.counts(-1, 0, 0), x.counts(0, 6, 0), x.counts(0, -2, 0), x.counts(0, 0, -1), x.counts(0, 0, 2000));
        read(x, "counts class=3;counts land=1 and length>49;", 10);
        due("ahead", x.counts(0, 0, 9), 1);
        due("not so", x.counts(0, 0, 10), 0);
        due("at a scrap site", x.counts(0, 3, 10), 1);
        due("on the road", x.counts(0, -1, 10), 0);
        due("the other clause", x.counts(1, -1, 10), 1);
        due("at a site of the other land", x.counts(1, 0, 10), 1);
        String[] so = {"sort=1", "length=20", "weight=300", "class=0", "land=0", "0=land", "sort<length", "sort<=1", "sort>=1", "2>sort", "sort#2",
            "1=1 or 1=2 and 1=2", "not 1=2 or 1=1 and 1=2", "not(1=1 and 1=2)", "(1=1 or 1=2) and 1=1", "not not 1=1", "1=2 or 1=2 or 1=1",
            "not 1=2 and not 1=3", "((sort=1)and((length=20)))", "9999=9999", "length<weight and not(length=weight or(weight<length))"};
        String[] not = {"sort=2", "sort<1", "sort>1", "sort#1", "1>=2", "2<=1", "(1=1 or 1=1) and 1=2", "1=2 or 1=1 and 1=2", "not 1=1 or 1=2", "not(1=1 or 1=2)",
            "not 1=1 and 1=2", "length=weight", "class=4", "land=1", "not not 1=2", "1=1 and 1=1 and 1=2"};
        x.image();
        for (String c : so) {
            x.back();
            due(c, read(x, "counts " + c + ";", 10), 1);
            due(c, x.counts(0, 0, 10), 1);
        }
        for (String c : not) {
            x.back();
            due(c, read(x, "counts " + c + ";", 10), 1);
            due(c, x.counts(0, 0, 10), 0);
        }
        due("class 4 on the road", read(x, "counts class=4;", 11), 2);
        due("class 4 on the road", x.counts(0, -1, 11), 1);
        due("not at a site", x.counts(0, 3, 11), 0);
    }

    private static void counted() {
        CountTreaty x = lands(false);
        x.make(0, 0, 1, 1);
        x.make(0, 0, 9, 1);
        x.make(4, 0, 9, 1);
        x.make(3, 0, 9, 1);
        due("all", x.counted(0, 0), 3);
        due("the other land's", x.counted(1, 0), 1);
        none("others", x.counted(2, 0), x.counted(-1, 0), x.counted(0, -1), x.counted(0, 2000));
        x.days(1);
        x.make(1, 0, 9, 1);
        due("one more", x.counted(0, 1), 4);
        due("not made yet", x.counted(0, 0), 3);
        read(x, "counts class=0;counts class=4 and length>5;", 2);
        due("later", x.counted(0, 2), 2);
        x.days(1);
        x.move(1, 2);
        due("on the road", x.counted(0, 2), 2);
        x.move(0, 2);
        due("a short one on the road", x.counted(0, 2), 1);
        due("at a store", x.counted(0, 6), 0);
        read(x, "counts class=3;steps 1 wait 0;", 2);
        due("at a scrap site", x.counted(0, 2), 1);
        x.step(3);
        due("gone", x.counted(0, 2), 0);
        due("ahead of that", x.counted(0, 1), 4);
    }

    private static void tell() {
        CountTreaty x = lands(false);
        x.make(0, 0, 1, 1);
        x.days(4);
        none("others", x.tell(1, 0, 0), x.tell(-1, 0, 0), x.tell(0, 4, 0), x.tell(0, 6, 0), x.tell(0, -2, 0), x.tell(0, 101, 0));
        none("days", x.tell(0, 0, 5), x.tell(0, 0, -1));
        due("from day 0", x.tell(0, 0, 0), 0);
        due("from the clock's", x.tell(0, 3, 4), 1);
        due("gone", x.tell(0, -1, 4), 2);
        for (int i = 3; i < 200; i++) due("tell", x.tell(0, i % 4, i % 5), i);
        none("the 201st", x.tell(0, 0, 0));
        due("about(7)", x.about(7), 200);
        due("each is an act", x.about(11), 201);
    }

    private static void told() {
        CountTreaty x = lands(false);
        x.make(0, 0, 1, 1);
        x.days(5);
        none("none", x.told(0, 5, 5));
        x.tell(0, 2, 3);
        x.tell(0, 1, 3);
        x.days(1);
        x.tell(0, 0, 0);
        x.days(1);
        x.tell(0, -1, 6);
        due("of like ones the latest", x.told(0, 3, 5), 1);
        due("not the day ahead", x.told(0, 2, 5), -1);
        due("known later", x.told(0, 2, 6), 0);
        due("the latest day wins over the latest told", x.told(0, 3, 6), 1);
        due("gone", x.told(0, 6, 7), 101);
        due("not yet known", x.told(0, 6, 6), 1);
        due("ahead of it", x.told(0, 5, 1999), 1);
        due("a day behind known", x.told(0, 1999, 6), 1);
        none("others", x.told(1, 5, 5), x.told(-1, 5, 5), x.told(0, -1, 5), x.told(0, 2000, 5), x.told(0, 5, -1), x.told(0, 5, 2000));
    }

    private static void toldAt() {
        CountTreaty x = lands(false);
        for (int i = 0; i < 6; i++) x.make(0, i % 2, 1, 1);
        x.days(2);
        for (int i = 0; i < 5; i++) x.tell(i, i < 4 ? 1 : 2, i < 3 ? 0 : 1);
        due("sort 0 on day 0", x.toldAt(1, 0, 0, 2), 2);
        due("sort 1 on day 0", x.toldAt(1, 1, 0, 2), 1);
        due("sort 1 on day 1", x.toldAt(1, 1, 1, 2), 2);
        due("elsewhere", x.toldAt(2, 0, 1, 2), 1);
        due("not known", x.toldAt(1, 0, 0, 1), 0);
        due("where they are truly", x.toldAt(0, 0, 2, 2), 0);
        due("a sort without things", x.toldAt(1, 3, 2, 2), 0);
        none("others", x.toldAt(6, 0, 0, 0), x.toldAt(-1, 0, 0, 0), x.toldAt(101, 0, 0, 0), x.toldAt(0, 4, 0, 0), x.toldAt(0, -1, 0, 0));
        none("days", x.toldAt(0, 0, -1, 0), x.toldAt(0, 0, 2000, 0), x.toldAt(0, 0, 0, -1), x.toldAt(0, 0, 0, 2000));
    }

    private static void visit() {
        CountTreaty x = lands(false);
        x.make(0, 0, 1, 1);
        none("on day 0", x.visit(1, 0));
        x.days(1);
        none("others", x.visit(0, 0), x.visit(1, 4), x.visit(2, 0), x.visit(-1, 0), x.visit(1, 6), x.visit(1, -1));
        for (int i = 0; i < 100; i++) due("visit", i % 2 == 0 ? x.visit(1, 0) : x.visit(0, 5), i);
        none("the 101st", x.visit(1, 0));
        due("about(8)", x.about(8), 100);
        due("each is an act", x.about(11), 101);
    }

    private static void saw() {
        CountTreaty x = lands(false);
        x.make(0, 0, 1, 10);
        x.make(0, 0, 1, 400);
        x.make(0, 2, 1, 400);
        x.make(0, 3, 1, 10);
        x.make(1, 3, 1, 10);
        x.seal(0);
        x.days(2);
        read(x, "veil weight>300 and class=0;", 3);
        x.move(0, 1);
        due("ahead of all that is done", x.visit(1, 0), 0);
        int[] first = {2, 0, 1, 1, 0, 1, 2};
        for (int i = 0; i < 7; i++) due("saw(0, " + i + ")", x.saw(0, i), first[i]);
        x.days(1);
        x.visit(1, 0);
        x.seal(0);
        x.visit(1, 0);
        int[] second = {0, 0, 0, 1, 2, 0, 3};
        for (int i = 0; i < 7; i++) due("saw(1, " + i + ")", x.saw(1, i), second[i]);
        for (int i = 0; i < 7; i++) due("a seal of this day isn't seen: saw(2, " + i + ")", x.saw(2, i), second[i]);
        x.days(1);
        x.visit(1, 0);
        due("the new seal", x.saw(3, 5), 1);
        x = lands(false);
        x.make(0, 0, 1, 10);
        x.make(1, 3, 1, 10);
        x.move(0, 1);
        x.days(2);
        x.visit(1, 1);
        due("not there as the day ahead was over", x.saw(0, 0), 0);
        x.days(2);
        x.visit(1, 1);
        int[] there = {1, 0, 0, 1, 0, -1, 4};
        for (int i = 0; i < 7; i++) due("it came, and there is no seal: saw(1, " + i + ")", x.saw(1, i), there[i]);
        none("others", x.saw(2, 0), x.saw(-1, 0), x.saw(0, 7), x.saw(0, -1), x.saw(0, FAR));
        read(x, "veil 1=1;", 4);
        due("what was seen stays", x.saw(1, 0), 1);
    }

    private static void cloud() {
        CountTreaty x = lands(false);
        x.days(50);
        none("others", x.cloud(6, 0), x.cloud(-1, 0), x.cloud(0, -1), x.cloud(0, 2000));
        due("a day ahead", x.cloud(0, 0), 1);
        none("told", x.cloud(0, 0));
        due("another site", x.cloud(1, 0), 2);
        due("the last day", x.cloud(0, 1999), 3);
        for (int i = 4; i <= 60; i++) due("cloud", x.cloud(2, i), i);
        none("the 61st", x.cloud(3, 0));
        due("about(13)", x.about(13), 60);
    }

    private static void picture() {
        CountTreaty x = lands(false);
        x.make(0, 0, 39, 1);
        x.make(0, 1, 40, 1);
        x.make(0, 2, 200, 1);
        none("day 0", x.picture(0));
        x.days(1);
        x.move(2, 1);
        due("ahead of all that is done", x.picture(0), 2);
        none("covered, no site", x.picture(5), x.picture(6), x.picture(-1));
        x.days(1);
        due("one left", x.picture(0), 1);
        due("not there yet", x.picture(1), 0);
        x.days(1);
        x.cloud(1, 3);
        none("clouds", x.picture(1));
        due("not over another site", x.picture(0), 1);
        x.days(1);
        due("there", x.picture(1), 1);
        due("about(9)", x.about(9), 5);
        for (int i = 5; i < 100; i++) due("picture", x.picture(3), 0);
        none("the 101st", x.picture(3));
        due("no acts", x.about(11), 4);
    }

    private static void possible() {
        CountTreaty x = known();
        for (int i = 0; i < 4; i++) x.make(i, 0, 15, 15);
        x.make(0, 0, 22, 15);
        x.make(0, 2, 105, 105);
        x.days(1);
        span("nothing is known", x, 0, 0, 0, 0, 0, 40);
        x.visit(1, 0);
        span("not yet", x, 0, 0, 0, 0, 0, 40);
        span("seen", x, 0, 0, 0, 1, 2, 2);
        span("nothing moved", x, 0, 0, 1, 1, 2, 2);
        none("none", x.possible(0, 0, 1, 0, false), x.possible(4, 0, 0, 0, true), x.possible(0, 4, 0, 0, true), x.possible(-1, 0, 0, 0, true),
            x.possible(0, -1, 0, 0, true), x.possible(0, 0, -1, 0, true), x.possible(0, 0, 0, 2000, true), x.possible(0, 0, 2000, 2000, true));
        x.move(0, 1);
        span("one that fits this alone left", x, 0, 0, 1, 1, 1, 1);
        span("the day ahead", x, 0, 0, 0, 1, 2, 2);
        x.move(4, 1);
        span("one that fits two left", x, 0, 0, 1, 1, 0, 1);
        span("of the other sort there was none", x, 0, 1, 1, 1, 0, 0);
        span("it doesn't fit a third", x, 0, 2, 1, 1, 1, 1);
        x.days(1);
        x.move(0, 0);
        x.days(1);
        span("one came", x, 0, 0, 3, 3, 1, 2);
        span("ahead of that", x, 0, 0, 2, 3, 0, 1);
        x.visit(1, 0);
        span("seen", x, 0, 0, 2, 3, 0, 0);
        span("seen", x, 0, 0, 3, 3, 1, 1);
        span("without a portal", x, 1, 0, 2, 3, 0, 40);

        x = known();
        for (int i = 0; i < 4; i++) x.make(i, 0, 15, 15);
        x.days(1);
        for (int i = 0; i < 4; i++) x.visit(1, i);
        span("a portal", x, 0, 0, 9, 9, 1, 1);
        span("no portal", x, 1, 0, 0, 9, 1, 1);
        span("no portal", x, 1, 0, 1, 9, 0, 40);
        span("a plant", x, 2, 0, 0, 9, 1, 1);
        span("a plant", x, 2, 0, 1, 9, 1, 40);
        span("a scrap site", x, 3, 0, 0, 9, 1, 1);
        span("a scrap site", x, 3, 0, 1, 9, 0, 1);
        x.move(0, 3);
        span("a scrap site to which one comes", x, 3, 0, 2, 9, 0, 2);
        span("a day later", x, 3, 0, 3, 9, 0, 2);
        x.move(2, 3);
        span("a plant which one leaves", x, 2, 0, 1, 9, 0, 40);
        span("of another sort", x, 2, 3, 1, 9, 0, 40);
        span("the base which one leaves", x, 0, 0, 1, 1, 0, 0);

        quiet();
        pictures();
        contradictions();
        ends();
    }

    private static void ends() {
        CountTreaty x = known();
        for (int i = 0; i < 40; i++) x.make(0, 0, 15, 15);
        x.days(1);
        x.visit(1, 0);
        span("all forty", x, 0, 0, 0, 1, 40, 40);
        x = known();
        x.make(1, 0, 15, 15);
        x.days(400); x.days(400); x.days(400); x.days(400);
        x.days(398);
        x.seal(1);
        x.days(1);
        x.visit(1, 1);
        span("the day ahead of the last one", x, 1, 0, 1998, 1999, 1, 1);
        span("the last day", x, 1, 0, 1999, 1999, 0, 40);
        x = known();
        x.site(0, 0, false, false);
        x.make(0, 2, 105, 105);
        x.days(1);
        x.picture(4);
        span("none by a picture", x, 4, 2, 0, 1, 0, 0);
        x = new CountTreaty();
        x.site(0, 0, true, false);
        x.rules(0, 0, 1);
        x.make(0, 0, 5, 5);
        x.days(1);
        x.picture(0);
        for (int sort = 0; sort < 4; sort++) span("each sort by a picture", x, 0, sort, 0, 1, 0, 1);
    }

    private static void quiet() {
        CountTreaty x = known();
        x.make(1, 0, 15, 15);
        x.make(0, 0, 15, 15);
        x.days(1);
        x.visit(1, 1);
        x.seal(1);
        x.days(4);
        x.visit(1, 1);
        span("the seal's day isn't quiet", x, 1, 0, 1, 5, 0, 40);
        span("nor known as quiet ahead of the visit", x, 1, 0, 2, 4, 0, 40);
        span("the visits' day tells", x, 1, 0, 4, 5, 1, 1);
        x.days(3);
        span("behind the visit nothing is known", x, 1, 0, 5, 8, 0, 40);
        x.visit(1, 1);
        span("but now the days up to this visit are quiet", x, 1, 0, 7, 8, 1, 1);
        span("known on the day ahead", x, 1, 0, 7, 7, 0, 40);
        span("the visit's own day isn't", x, 1, 0, 8, 8, 0, 40);
        span("between", x, 1, 0, 5, 8, 1, 1);
        x.move(1, 1);
        x.days(5);
        x.visit(1, 1);
        due("broken", x.saw(3, 5), 0);
        span("a broken seal tells nothing", x, 1, 0, 9, 13, 0, 40);
        span("what was seen", x, 1, 0, 12, 13, 2, 2);
        x = known();
        x.make(1, 0, 15, 15);
        x.days(2);
        x.seal(1);
        x.days(1);
        x.visit(1, 1);
        x.days(5);
        x.visit(1, 1);
        span("on its day, as the first visit saw", x, 1, 0, 2, 3, 1, 1);
        span("two quiet days behind a seal", x, 1, 0, 4, 8, 1, 1);
        span("by the first visit alone it isn't quiet", x, 1, 0, 4, 7, 0, 40);
        x = known();
        x.make(1, 2, 105, 105);
        x.days(1);
        x.seal(1);
        x.days(1);
        x.picture(1);
        x.days(3);
        x.visit(1, 1);
        span("by a picture, and then by the very first visit", x, 1, 2, 3, 5, 0, 1);
        span("without that visit", x, 1, 2, 3, 4, 0, 40);
        x = known();
        x.make(1, 0, 15, 15);
        x.days(1);
        x.seal(1);
        x.days(4);
        x.visit(1, 1);
        span("what is seen later tells nothing of the days ahead", x, 1, 0, 3, 5, 0, 40);
        x.days(1);
        x.visit(1, 1);
        span("seen on the first visit", x, 1, 0, 4, 5, 1, 1);
        span("quiet by the second", x, 1, 0, 5, 6, 1, 1);
        span("as known ahead of it", x, 1, 0, 5, 5, 0, 40);
        x = known();
        x.make(2, 0, 15, 15);
        x.seal(2);
        x.seal(3);
        x.days(1);
        x.visit(1, 2);
        x.visit(1, 3);
        x.days(5);
        x.visit(1, 2);
        x.visit(1, 3);
        span("at a plant more can be, too", x, 2, 0, 3, 9, 1, 40);
        span("until it is seen", x, 2, 0, 5, 9, 1, 1);
        span("at a scrap site none was", x, 3, 0, 3, 9, 0, 0);
        x = known();
        x.make(1, 0, 15, 15);
        x.seal(1);
        x.days(1);
        x.visit(1, 1);
        x.days(4);
        x.visit(1, 1);
        span("a seal of day 0: quiet from day 1", x, 1, 0, 1, 9, 1, 1);
        span("to day 4", x, 1, 0, 4, 9, 1, 1);
        span("not day 5", x, 1, 0, 5, 9, 0, 40);
    }

    private static void pictures() {
        CountTreaty x = known();
        x.make(0, 2, 105, 105);
        x.make(0, 2, 105, 105);
        x.make(0, 0, 15, 15);
        x.days(3);
        x.picture(0);
        span("a long sort", x, 0, 2, 2, 3, 0, 2);
        span("another long sort", x, 0, 3, 2, 3, 0, 2);
        span("a short sort", x, 0, 0, 2, 3, 0, 40);
        span("not yet known", x, 0, 2, 2, 2, 0, 40);
        span("the day ahead", x, 0, 2, 1, 3, 0, 40);
        span("behind it", x, 0, 2, 3, 3, 0, 2);
        read(x, "veil sort=2;", 3);
        x.visit(1, 0);
        span("veiled ones can be of each sort", x, 0, 0, 2, 3, 1, 3);
        span("and of this", x, 0, 2, 2, 3, 0, 2);
        span("a sort without plain ones, below the picture", x, 0, 3, 2, 3, 0, 2);
        span("a short sort without plain ones", x, 0, 1, 2, 3, 0, 2);
    }

    private static void contradictions() {
        CountTreaty x = known();
        x.make(0, 2, 50, 50);
        x.make(1, 0, 15, 15);
        x.make(0, 0, 15, 15);
        x.days(1);
        x.visit(1, 0);
        x.move(0, 1);
        x.days(1);
        x.visit(1, 0);
        span("seen ahead", x, 0, 2, 0, 2, 1, 1);
        none("it left without fitting any sort: none is possible", x.possible(0, 2, 1, 2, false), x.possible(0, 2, 1, 2, true), x.possible(0, 2, 2, 2, true));
        due("not on the day ahead", x.possible(0, 2, 1, 1, true), 1);
        due("so what is told is doubted", x.doubted(0, 2, 1, 2), 1);
        x = known();
        x.make(0, 0, 15, 15);
        x.make(1, 0, 15, 15);
        x.days(1);
        x.visit(1, 0);
        x.move(1, 0);
        x.days(1);
        x.move(0, 1);
        span("by the moves' numbers: first one comes, then one leaves", x, 0, 0, 2, 2, 1, 1);
        x.days(1);
        x.visit(1, 0);
        span("seen", x, 0, 0, 2, 3, 1, 1);
        x.days(1);
        x.move(0, 0);
        x.move(1, 1);
        x.days(1);
        span("first one left, on a day ahead", x, 0, 0, 4, 5, 0, 0);
        span("then one came", x, 0, 0, 5, 5, 1, 1);
        x = known();
        x.make(0, 0, 15, 15);
        x.make(1, 0, 15, 15);
        x.make(1, 0, 15, 15);
        x.days(1);
        x.move(1, 0);
        x.days(1);
        x.visit(1, 0);
        x.move(0, 1);
        due("seen on the day ahead", x.saw(0, 0), 1);
        span("one, less one, and more one", x, 0, 0, 2, 2, 1, 1);
        x = known();
        x.site(0, 0, true, false);
        x.road(0, 4, 30);
        x.make(0, 0, 15, 15);
        x.days(1);
        x.visit(1, 0);
        due("coming on day 31", x.move(0, 4), 0);
        x.visit(1, 4);
        span("a coming that is ahead", x, 4, 0, 31, 31, 1, 1);
        span("the day ahead of it", x, 4, 0, 30, 1999, 0, 0);
        x = known();
        x.make(0, 0, 7, 15);
        x.make(0, 0, 8, 5);
        x.make(0, 0, 22, 25);
        x.days(1);
        x.visit(1, 0);
        x.move(0, 1);
        span("just beside the spans: it fits none", x, 0, 0, 1, 1, 3, 3);
        x.move(1, 1);
        span("just at the spans' lower ends", x, 0, 0, 1, 1, 2, 2);
        x.move(2, 1);
        span("just at their upper ends, and another sort's", x, 0, 0, 1, 1, 1, 2);
    }

    private static void doubted() {
        CountTreaty x = known();
        x.make(0, 0, 15, 15);
        x.make(0, 0, 15, 15);
        x.days(1);
        due("all can be", x.doubted(0, 0, 1, 1), 0);
        x.visit(1, 0);
        due("none is told, two are there", x.doubted(0, 0, 0, 1), 1);
        due("as was known", x.doubted(0, 0, 0, 0), 0);
        x.tell(0, 0, 0);
        due("one is told", x.doubted(0, 0, 0, 1), 1);
        x.tell(1, 0, 0);
        due("two are told", x.doubted(0, 0, 0, 1), 0);
        due("another sort", x.doubted(0, 1, 0, 1), 0);
        x.move(1, 1);
        due("one left", x.doubted(0, 0, 1, 1), 1);
        x.tell(1, 1, 1);
        due("and it was told", x.doubted(0, 0, 1, 1), 0);
        none("others", x.doubted(0, 0, 1, 0), x.doubted(4, 0, 0, 0), x.doubted(-1, 0, 0, 0), x.doubted(0, 4, 0, 0), x.doubted(0, -1, 0, 0),
            x.doubted(0, 0, -1, 0), x.doubted(0, 0, 0, 2000), x.doubted(0, 0, -2, -1));
    }

    private static void doubt() {
        none("without sites", new CountTreaty().doubt(0, 0, 0));
        CountTreaty x = new CountTreaty();
        x.site(0, 0, true, false);
        x.make(0, 3, 1, 1);
        x.days(1);
        x.visit(1, 0);
        due("a single site", x.doubt(0, 1, 0), 3);
        x = known();
        x.make(0, 0, 15, 15);
        x.make(0, 2, 15, 15);
        x.make(3, 1, 15, 15);
        x.make(1, 3, 15, 15);
        x.days(1);
        for (int i = 0; i < 4; i++) x.visit(1, i);
        due("0th", x.doubt(0, 1, 0), 0);
        due("1st", x.doubt(0, 1, 1), 2);
        due("2nd", x.doubt(0, 1, 2), 7);
        due("3rd", x.doubt(0, 1, 3), 13);
        none("4th", x.doubt(0, 1, 4), x.doubt(0, 1, -1), x.doubt(0, 1, FAR), x.doubt(0, 0, 0), x.doubt(1, 0, 0), x.doubt(-1, 1, 0), x.doubt(0, 2000, 0));
        x.tell(1, 0, 0);
        due("put right", x.doubt(0, 1, 1), 7);
        due("a day later, at the site without a portal, all can be", x.doubt(1, 1, 1), -1);
    }

    private static void ask() {
        CountTreaty x = lands(false);
        none("others", x.ask(0, 0), x.ask(1, 4), x.ask(2, 0), x.ask(-1, 0), x.ask(0, 6), x.ask(0, -1));
        for (int i = 0; i < 50; i++) due("ask", i % 2 == 0 ? x.ask(1, 2) : x.ask(0, 4), i);
        none("the 51st", x.ask(1, 2));
        due("about(10)", x.about(10), 50);
    }

    private static void answer() {
        CountTreaty x = lands(false);
        no("none such", x.answer(0));
        x.ask(1, 2);
        x.ask(0, 4);
        yes("the same day", x.answer(1));
        no("again", x.answer(1));
        x.days(100);
        yes("later", x.answer(0));
        no("again", x.answer(0));
        no("none such", x.answer(2));
        no("none such", x.answer(-1));
        due("acts", x.about(11), 4);
    }

    private static void act() {
        CountTreaty x = lands(false);
        x.make(4, 0, 1, 1);
        x.make(3, 0, 1, 1);
        x.days(2);
        x.step(1);
        x.move(1, 2);
        x.tell(1, -1, 0);
        x.visit(1, 2);
        x.ask(0, 5);
        x.ask(1, 3);
        x.days(1);
        x.answer(1);
        x.move(1, 9);
        x.seal(0);
        x.cloud(0, 0);
        x.picture(0);
        int[][] acts = {{0, 0, 1, 0}, {0, 0, 0, 1}, {2, 2, 0, 1}, {1, 2, 0, 1}, {3, 2, 0, 1}, {4, 2, 1, 2}, {5, 2, 0, 5}, {5, 2, 1, 3}, {6, 3, 0, 1}};
        for (int i = 0; i < acts.length; i++) {
            for (int w = 0; w < 4; w++) due("act(" + i + ", " + w + ")", x.act(i, w), acts[i][w]);
        }
        due("about(11)", x.about(11), 9);
        none("others", x.act(9, 0), x.act(-1, 0), x.act(0, 4), x.act(0, -1), x.act(0, FAR), x.act(LOW, 0));
    }

    private static void judged() {
        CountTreaty x = lands(false);
        read(x, "limit 2 from 0 to 0;tell 5;steps 3 wait 4;visits 2;answer 3;", 0);
        x.make(0, 0, 1, 1);
        x.make(3, 0, 1, 1);
        due("within the limit", x.judged(1, 0), 0);
        x.make(0, 0, 1, 1);
        for (int i = 0; i < 3; i++) due("more than the limit as the day is over", x.judged(i, 0), 1);
        x.make(4, 0, 1, 1);
        due("the other land has its own", x.judged(3, 0), 0);
        x.move(0, 1);
        due("more count: a move likewise", x.judged(4, 0), 1);
        none("others", x.judged(5, 0), x.judged(-1, 0), x.judged(0, -1), x.judged(0, 2000));
        x.days(1);
        x.move(2, 1);
        due("open", x.judged(5, 1), 3);
        due("open up to 3 + 5", x.judged(5, 8), 3);
        due("not told", x.judged(5, 9), 2);
        none("known ahead of its day", x.judged(5, 0));
        x.days(2);
        x.tell(2, 1, 2);
        due("told from another day", x.judged(5, 9), 2);
        due("which is wrong", x.judged(6, 3), 5);
        x.tell(2, 0, 3);
        due("told at another site", x.judged(5, 9), 2);
        x.tell(0, 1, 3);
        due("told of another thing", x.judged(5, 9), 2);
        due("which is right", x.judged(8, 3), 0);
        x.days(5);
        due("still open", x.judged(5, 8), 3);
        x.image();
        x.tell(2, 1, 3);
        due("told on the last day", x.judged(5, 9), 0);
        due("as known then", x.judged(5, 8), 0);
        due("not ahead", x.judged(5, 7), 3);
        due("and right", x.judged(9, 8), 0);
        x.back();
        x.days(1);
        x.tell(2, 1, 3);
        due("told too late", x.judged(5, 9), 2);
        stepsAndOthers();
    }

    private static void stepsAndOthers() {
        CountTreaty x = lands(false);
        read(x, "steps 3 wait 4;visits 2;answer 3;", 0);
        x.make(3, 0, 1, 1);
        x.step(0);
        due("a first step", x.judged(1, 0), 0);
        x.days(3);
        x.step(0);
        due("3 days behind", x.judged(2, 3), 4);
        x.days(4);
        x.step(0);
        due("4 days behind", x.judged(3, 7), 0);
        x.tell(0, -1, 7);
        due("gone is right", x.judged(4, 7), 0);
        x.tell(0, 3, 7);
        due("there is wrong", x.judged(5, 7), 5);
        x.tell(0, 3, 6);
        due("there was right", x.judged(6, 7), 0);
        x.tell(0, -1, 6);
        due("gone was wrong", x.judged(7, 7), 5);
        x.visit(1, 0);
        x.visit(1, 1);
        x.visit(0, 4);
        x.visit(1, 0);
        due("first", x.judged(8, 7), 0);
        due("second", x.judged(9, 7), 0);
        due("the other land's", x.judged(10, 7), 0);
        due("third", x.judged(11, 7), 6);
        x.days(353);
        x.visit(1, 0);
        due("in the next year", x.judged(12, 360), 0);
        x.ask(1, 0);
        due("open", x.judged(13, 360), 3);
        due("open", x.judged(13, 363), 3);
        due("not answered", x.judged(13, 364), 7);
        x.days(3);
        x.image();
        x.answer(0);
        due("answered", x.judged(13, 363), 0);
        due("answered", x.judged(13, 1999), 0);
        due("not yet then", x.judged(13, 362), 3);
        due("an answer", x.judged(14, 363), 0);
        x.back();
        x.days(1);
        x.answer(0);
        due("too late", x.judged(13, 364), 7);
        due("as it was open", x.judged(13, 363), 3);
        x = lands(false);
        read(x, "steps 9 wait 2;", 0);
        x.make(3, 0, 1, 1);
        x.make(0, 0, 1, 1);
        x.days(7);
        x.step(0);
        x.move(1, 1);
        x.days(1);
        x.step(0);
        due("a day behind", x.judged(4, 8), 4);
        x.days(1);
        x.tell(1, 1, 9);
        due("the very first one told", x.judged(3, 9), 0);
        x = lands(false);
        x.make(0, 0, 1, 1);
        x.days(2);
        x.tell(0, 0, 2);
        due("right", x.judged(1, 2), 0);
        x.move(0, 1);
        due("on the road as the day is over", x.judged(1, 2), 5);
        x.days(5);
        x.make(1, 0, 1, 1);
        x.tell(1, 1, 3);
        due("not made then", x.judged(4, 7), 5);
    }

    private static void fails() {
        CountTreaty x = lands(false);
        x.make(0, 0, 1, 1);
        x.make(0, 0, 1, 1);
        x.days(1);
        x.tell(0, 1, 1);
        x.tell(1, 0, 1);
        x.days(1);
        x.tell(1, 1, 1);
        due("0th", x.fails(5, 2, 0), 2);
        due("1st", x.fails(5, 2, 1), 4);
        none("2nd", x.fails(5, 2, 2), x.fails(5, 2, -1), x.fails(5, 2, FAR));
        none("of that day or ahead", x.fails(5, 1, 1), x.fails(5, 0, 0));
        x.move(0, 1);
        due("open", x.fails(3, 2, 0), 5);
        due("not told", x.fails(2, 1999, 0), 5);
        none("others", x.fails(0, 2, 0), x.fails(8, 2, 0), x.fails(-1, 2, 0), x.fails(5, -1, 0), x.fails(5, 2000, 0));
        read(x, "limit 1 from 2 to 2;", 2);
        due("more than the limit", x.fails(1, 2, 0), 5);
        none("not on day 0", x.fails(1, 2, 1));
        x.ask(1, 0);
        due("not answered", x.fails(7, 1999, 0), 6);
        x = lands(false);
        read(x, "limit 1 from 0 to 0;", 0);
        x.make(0, 0, 1, 1);
        none("within the limit", x.fails(1, 0, 0));
        x.make(0, 0, 1, 1);
        due("the first act", x.fails(1, 0, 0), 0);
        due("the second", x.fails(1, 0, 1), 1);
        due("as judged", x.judged(0, 0), 1);
        read(x, "limit 2 from 0 to 0;", 0);
        due("as judged", x.judged(0, 0), 0);
        none("within the new one", x.fails(1, 0, 0));
    }

    private static void chance() {
        CountTreaty x = lands(false);
        due("at first", x.about(20), 10);
        yes("the least", x.chance(0, 1));
        yes("the greatest", x.chance(5, 50));
        due("about", x.about(20), 1);
        due("about", x.about(25), 50);
        no("no site", x.chance(6, 5));
        no("no site", x.chance(-1, 5));
        no("0", x.chance(0, 0));
        no("51", x.chance(0, 51));
        due("nothing is changed", x.about(20), 1);
    }

    private static void value() {
        CountTreaty x = lands(false);
        int[] chances = {20, 30, 10, 50, 49, 47};
        for (int i = 0; i < 6; i++) x.chance(i, chances[i]);
        due("one site", x.value(1, 1, false), 20);
        due("one site", x.value(1, 1, true), 1);
        due("two sites: 1 / (1/20 + 1/30)", x.value(3, 1, false), 12);
        due("two visits: no more than the least", x.value(3, 2, false), 20);
        due("1 / (1/20 + 1/30 + 1/10)", x.value(7, 1, false), 60);
        due("1 / (1/20 + 1/30 + 1/10)", x.value(7, 1, true), 11);
        due("two: no more than 10", x.value(7, 2, false), 10);
        due("two: no more than 10", x.value(7, 2, true), 1);
        due("five sites", x.value(62, 1, false), 345450);
        due("five sites: 1 / (1/30 + 1/10 + 1/50 + 1/49 + 1/47)", x.value(62, 1, true), 67369);
        none("others", x.value(0, 1, false), x.value(63, 1, false), x.value(64, 1, false), x.value(65, 1, false), x.value(-1, 1, true), x.value(LOW, 1, true));
        none("visits", x.value(3, 0, false), x.value(3, 3, false), x.value(3, -1, false), x.value(1, 2, false), x.value(31, 6, false));
        due("as many", x.value(31, 5, false), 10);
    }

    private static void share() {
        CountTreaty x = lands(false);
        x.chance(0, 20);
        x.chance(1, 30);
        due("upper", x.share(3, 1, 0, false), 3);
        due("lower", x.share(3, 1, 0, true), 5);
        due("upper", x.share(3, 1, 1, false), 2);
        due("lower", x.share(3, 1, 1, true), 5);
        due("surely", x.share(3, 2, 0, false), 1);
        due("surely", x.share(3, 2, 0, true), 1);
        due("what is over isn't told", x.share(3, 2, 1, false), 2);
        due("what is over isn't told", x.share(3, 2, 1, true), 3);
        none("others", x.share(3, 1, 2, false), x.share(3, 1, -1, false), x.share(3, 1, 32, false), x.share(3, 3, 0, true), x.share(0, 1, 0, true), x.share(3, 1, FAR, true));
    }

    private static void proof() {
        CountTreaty x = lands(false);
        x.chance(0, 20);
        x.chance(1, 30);
        x.chance(3, 15);
        due("3 : 2 for 20 : 30", x.proof(3, 1, 3, 2, 0, 0, 0), 0);
        due("greater ones alike", x.proof(3, 1, 999, 666, 0, 0, 0), 0);
        due("above", x.proof(3, 1, 1, 1, 0, 0, 0), 1);
        due("two visits: the least alone", x.proof(3, 2, 1, 0, 0, 0, 0), 0);
        due("two visits: above", x.proof(3, 2, 3, 2, 0, 0, 0), 1);
        due("by the set's numbers: 30 : 15", x.proof(10, 1, 1, 2, 0, 0, 0), 0);
        due("turned", x.proof(10, 1, 2, 1, 0, 0, 0), 1);
        due("further ones don't count", x.proof(3, 1, 3, 2, -9, FAR, LOW), 0);
        due("one of three", x.proof(11, 1, 3, 2, 4, 0, 0), 0);
        due("two of three", x.proof(11, 2, 3, 2, 4, 0, 0), 0);
        due("two of three: 40/3 is below 15", x.proof(11, 2, 0, 0, 1, 0, 0), 1);
        due("three of three", x.proof(11, 3, 0, 0, 1, 0, 0), 0);
        due("three of three: above", x.proof(11, 3, 3, 2, 4, 0, 0), 1);
        x.chance(2, 15);
        x.chance(4, 30);
        due("five sites by their numbers", x.proof(31, 1, 3, 2, 4, 4, 2), 0);
        due("the fourth", x.proof(31, 1, 3, 2, 4, 0, 2), 1);
        due("the fifth", x.proof(31, 1, 3, 2, 4, 4, 3), 1);
        none("five without weight", x.proof(31, 1, 0, 0, 0, 0, 0));
        none("weights", x.proof(3, 1, 0, 0, 5, 5, 5), x.proof(3, 1, -1, 5, 0, 0, 0), x.proof(3, 1, 5, 1000, 0, 0, 0));
        none("others", x.proof(0, 1, 1, 1, 1, 1, 1), x.proof(3, 3, 1, 1, 1, 1, 1), x.proof(64, 1, 1, 1, 1, 1, 1));
    }

    private static void watch() {
        CountTreaty x = lands(false);
        x.days(5);
        none("others", x.watch(0, 4), x.watch(0, 2000), x.watch(6, 5), x.watch(-1, 5), x.watch(0, -1));
        due("the clock's day", x.watch(0, 5), 1);
        none("told", x.watch(0, 5));
        due("another site", x.watch(1, 5), 2);
        due("the last day", x.watch(0, 1999), 3);
        for (int i = 4; i <= 60; i++) due("watch", x.watch(2, i + 5), i);
        none("the 61st", x.watch(3, 5));
        due("about(14)", x.about(14), 60);
    }

    private static void unseen() {
        CountTreaty x = lands(false);
        x.make(0, 0, 50, 1);
        x.make(2, 0, 39, 1);
        x.make(4, 0, 1, 1);
        due("two things, three other sites, two days", x.unseen(0, 2), 12);
        due("the other land", x.unseen(1, 30), 30);
        none("others", x.unseen(2, 1), x.unseen(-1, 1), x.unseen(0, 0), x.unseen(0, 31), x.unseen(0, FAR));
        x.watch(0, 0);
        due("the long one is seen leaving, the short one isn't seen coming", x.unseen(0, 2), 9);
        x.watch(3, 1);
        due("it is seen coming", x.unseen(0, 2), 8);
        x.cloud(0, 0);
        due("clouds", x.unseen(0, 2), 11);
        x.watch(5, 0);
        x.watch(5, 1);
        due("a covered site isn't seen", x.unseen(1, 2), 2);
        x.image();
        x.make(4, 0, 200, 1);
        due("not even for a long one", x.unseen(1, 2), 4);
        x.watch(4, 0);
        due("the other one is", x.unseen(1, 2), 3);
        x.make(4, 0, 40, 1);
        due("one of just SEEN", x.unseen(1, 2), 4);
        x.make(4, 0, 39, 1);
        due("one below", x.unseen(1, 2), 6);
        x.back();
        x.seal(3);
        due("sealed", x.unseen(0, 2), 8);
        x.days(1);
        x.move(1, 3);
        due("it is on the road", x.unseen(0, 2), 4);
        x.days(2);
        due("the seal broke: it can go on from there", x.unseen(0, 1), 6);
        x.site(0, 0, true, false);
        x.road(6, 0, 1);
        due("none by a portal", x.unseen(0, 1), 6);
        x.site(0, 0, false, false);
        due("none without a way", x.unseen(0, 1), 6);
        x.days(400); x.days(400); x.days(400); x.days(400); x.days(394);
        due("clock", x.about(0), 1997);
        due("no days behind 1999", x.unseen(0, 30), 18);
        x = lands(false);
        x.make(2, 0, 50, 1);
        x.road(0, 2, 1);
        x.watch(0, 30);
        due("a day that is too far off", x.unseen(0, 30), 90);
        x.watch(0, 29);
        due("the last of thirty", x.unseen(0, 30), 89);
        x.watch(1, 0);
        due("the first of thirty", x.unseen(0, 30), 88);
    }

    private static void trick() {
        CountTreaty x = lands(false);
        x.make(2, 0, 50, 1);
        x.make(4, 0, 50, 1);
        x.make(3, 0, 50, 1);
        x.days(7);
        x.watch(1, 8);
        int[][] due = {{0, 0, 7}, {0, 0, 8}, {0, 1, 7}, {0, 3, 7}, {0, 3, 8}, {2, 0, 7}, {2, 0, 8}, {2, 1, 7}, {2, 2, 7}, {2, 2, 8}};
        due("unseen", x.unseen(0, 2), 10);
        for (int i = 0; i < due.length; i++) {
            for (int w = 0; w < 3; w++) due("trick(" + i + ", " + w + ")", x.trick(0, 2, i, w), due[i][w]);
        }
        none("others", x.trick(0, 2, 10, 0), x.trick(0, 2, -1, 0), x.trick(0, 2, 0, 3), x.trick(0, 2, 0, -1), x.trick(2, 2, 0, 0), x.trick(0, 0, 0, 0),
            x.trick(0, 31, 0, 0), x.trick(0, 2, FAR, 0), x.trick(-1, 2, 0, 0));
        due("the other land's", x.trick(1, 2, 1, 1), 5);
        due("a single day", x.trick(0, 1, 1, 1), 1);
        due("thirty days", x.trick(0, 30, 29, 2), 36);
    }

    private static void image() {
        CountTreaty x = lands(false);
        due("image", x.image(), 0);
        x.days(3);
        due("image", x.image(), 3);
        x.days(3);
        due("back", x.back(), 3);
        due("about(0)", x.about(0), 3);
    }

    private static void back() {
        CountTreaty x = lands(false);
        x.sort(0, 5, 9, 5, 9);
        x.rules(1, 1, 77);
        x.make(0, 0, 50, 1);
        x.chance(0, 33);
        read(x, "tell 4;", 0);
        x.days(3);
        x.move(0, 1);
        x.tell(0, 0, 0);
        x.seal(2);
        x.visit(1, 0);
        x.picture(0);
        x.ask(1, 0);
        x.cloud(0, 9);
        x.watch(0, 9);
        int[] before = new int[16];
        for (int i = 0; i < 16; i++) before[i] = x.about(i);
        due("image", x.image(), 3);
        for (int round = 0; round < 2; round++) {
            x.days(2);
            x.site(1, 1, true, true);
            x.road(4, 6, 1);
            x.road(0, 1, 1);
            x.make(1, 0, 1, 1);
            x.move(0, 0);
            x.tell(0, 1, 5);
            x.seal(0);
            x.visit(1, 1);
            x.picture(1);
            x.answer(0);
            x.ask(1, 1);
            x.cloud(1, 9);
            x.watch(1, 9);
            x.chance(0, 44);
            read(x, "tell 5;", 5);
            none("a fault", read(x, "tell 6", 5));
            due("feed", x.feed(0, 0, 0, 0, 0), 20);
            due("back", x.back(), 3);
            for (int i = 0; i < 16; i++) due("about(" + i + ")", x.about(i), i == 12 ? 20 : before[i]);
            due("chance", x.about(20), 33);
            due("fault(0) stays", x.fault(0), 1);
            due("fault(1) stays", x.fault(1), 6);
            due("tell", x.says(1999, 1), 4);
            due("way", x.way(0, 1), 2);
            due("where", x.where(0, 5), 1);
            due("told", x.told(0, 1999, 1999), 0);
            due("moves of the thing", x.thing(0, 6), 1);
            due("the question is open", x.judged(4, 1999), 7);
            none("no way to what isn't there", x.way(4, 6));
        }
        yes("the question", x.answer(0));
        spansBack();
    }

    private static void spansBack() {
        CountTreaty x = known();
        x.image();
        x.rules(50, 50, 1);
        x.sort(0, 1, 200, 1, 500);
        x.sort(2, 1, 200, 1, 500);
        x.back();
        due("seen", x.about(15), 100);
        x.make(0, 0, 15, 15);
        x.make(0, 0, 50, 15);
        x.make(0, 0, 15, 50);
        x.make(0, 0, 105, 105);
        x.days(1);
        x.visit(1, 0);
        x.move(1, 1);
        x.move(2, 1);
        span("by the spans of the image", x, 0, 0, 1, 1, 4, 4);
        x.move(0, 1);
        span("and by its rules", x, 0, 0, 1, 1, 3, 3);
        none("sort 2, too", x.move(3, 1) == 3 ? x.possible(0, 2, 1, 1, true) : 0);
        x.back();
        x.rules(0, 5, 100);
        x.image();
        x.rules(0, 0, 100);
        x.back();
        x.make(0, 0, 15, 25);
        x.days(1);
        x.visit(1, 0);
        x.move(0, 1);
        span("EW of the image", x, 0, 0, 1, 1, 0, 0);
        x.back();
        x.rules(3, 5, 100);
        x.make(0, 0, 15, 15);
        x.make(0, 0, 23, 15);
        x.days(1);
        x.visit(1, 0);
        x.move(1, 1);
        span("EL of now", x, 0, 0, 1, 1, 1, 2);
        x.back();
        x.rules(0, 9, 100);
        x.make(0, 0, 15, 29);
        x.days(1);
        x.visit(1, 0);
        x.move(0, 1);
        span("EW of now", x, 0, 0, 1, 1, 0, 0);
    }

    private static void about() {
        CountTreaty x = lands(false);
        x.make(0, 0, 1, 1);
        x.days(9);
        x.move(0, 1);
        x.seal(0);
        read(x, "", 9);
        x.tell(0, 0, 0);
        x.visit(1, 0);
        x.visit(1, 0);
        x.picture(0);
        x.picture(0);
        x.picture(0);
        x.ask(0, 4);
        x.cloud(0, 0);
        x.cloud(0, 1);
        x.watch(0, 9);
        x.feed(0, 0, 0, 0, 0);
        int[] due = {9, 6, 4, 1, 1, 1, 1, 1, 2, 3, 1, 6, 20, 2, 1, 40};
        for (int i = 0; i < due.length; i++) due("about(" + i + ")", x.about(i), due[i]);
        x.chance(5, 7);
        due("about(25)", x.about(25), 7);
        due("about(24)", x.about(24), 10);
        none("others", x.about(-1), x.about(16), x.about(17), x.about(19), x.about(26), x.about(30), x.about(FAR), x.about(LOW));
    }

    private static void next() { title = "promise " + ++promise; }

    public static void main(String[] args) {
        next(); newObject();
        next(); site();
        next(); road();
        next(); way();
        next(); sort();
        next(); rules();
        next(); make();
        next(); move();
        next(); step();
        next(); seal();
        next(); days();
        next(); where();
        next(); thing();
        next(); whole();
        next(); feed();
        next(); end();
        next(); text();
        next(); fault();
        next(); says();
        next(); counts();
        next(); counted();
        next(); tell();
        next(); told();
        next(); toldAt();
        next(); visit();
        next(); saw();
        next(); cloud();
        next(); picture();
        next(); possible();
        next(); doubted();
        next(); doubt();
        next(); ask();
        next(); answer();
        next(); act();
        next(); judged();
        next(); fails();
        next(); chance();
        next(); value();
        next(); share();
        next(); proof();
        next(); watch();
        next(); unseen();
        next(); trick();
        next(); image();
        next(); back();
        next(); about();
        close(promise + " promises", promise == 46);
    }
}
