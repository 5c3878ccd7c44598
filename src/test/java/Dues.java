/** What the project's tests share: how an answer that isn't due is told, and the lands that they begin with. */
class Dues {
    static final int FAR = Integer.MAX_VALUE;
    static final int LOW = Integer.MIN_VALUE;
    static String title = "";
    static int dues = 0;
    static int wrong = 0;

    static void due(String call, long got, long want) {
        dues++;
        if (got != want) {
            wrong++;
            System.out.println(title + ": " + call + " answered " + got + ", due is " + want);
        }
    }

    static void yes(String call, boolean got) { due(call, got ? 1 : 0, 1); }
    static void no(String call, boolean got) { due(call, got ? 1 : 0, 0); }
    static void none(String call, long... got) { for (long g : got) due(call, g, CountTreaty.NONE); }

    /** What a call answers for 0, 1 .. */
    static void each(String call, java.util.function.IntToLongFunction got, long... want) {
        for (int i = 0; i < want.length; i++) due(call + " of " + i, got.applyAsLong(i), want[i]);
    }

    /** Puts words on the tape; as the tape takes whole rows of twenty bytes, end() cuts it. */
    static void type(CountTreaty x, String words) {
        x.end(0);
        for (int i = 0; i < words.length(); i += 20) {
            int[] w = new int[5];
            for (int k = 0; k < 20; k++) w[k / 4] = w[k / 4] << 8 | (i + k < words.length() ? words.charAt(i + k) : 0);
            x.feed(w[0], w[1], w[2], w[3], w[4]);
        }
        due("end(" + words.length() + ")", x.end(words.length()), words.length());
    }

    static int read(CountTreaty x, String words, int from) {
        type(x, words);
        return x.text(from);
    }

    /** An object with one more TEXT, in force from a DAY on. */
    static CountTreaty with(CountTreaty x, String words, int from) {
        due(words, read(x, words, from) >= 0 ? 1 : 0, 1);
        return x;
    }

    /** The FAULT of words as a TEXT (0 without), its place. */
    static void fault(String words, int why, int at) {
        CountTreaty x = new CountTreaty();
        due(words, read(x, words, 0), why == 0 ? 0 : -1);
        due("fault(0) of " + words, x.fault(0), why);
        due("fault(1) of " + words, x.fault(1), at);
        due("the tape behind " + words, x.about(12), 0);
    }

    static void span(String call, CountTreaty x, int site, int sort, int day, int known, int least, int most) {
        due(call + ": least", x.possible(site, sort, day, known, false), least);
        due(call + ": most", x.possible(site, sort, day, known, true), most);
    }

    /** Brings the clock to a DAY. */
    static CountTreaty go(CountTreaty x, int day) {
        while (x.about(0) < day) due("days", x.days(Math.min(400, day - x.about(0))) > 0 ? 1 : 0, 1);
        return x;
    }

    /** SITES 0 base, 1 plant, 2 store, 3 scrap of LAND 0, in a row by 2 DAYS each; 4 a base and 5 a plant, COVERED, of LAND 1. */
    static CountTreaty lands(boolean portals) {
        CountTreaty x = new CountTreaty();
        for (int k = 0; k < 4; k++) due("site", x.site(0, k, portals, false), k);
        due("site", x.site(1, 0, portals, false), 4);
        due("site", x.site(1, 1, portals, true), 5);
        for (int k = 0; k < 3; k++) due("road", x.road(k, k + 1, 2), k);
        due("road", x.road(4, 5, 7), 3);
        return x;
    }

    /** A PORTAL's SITE 0, one without 1 (both bases), a plant 2, a scrap SITE 3 with PORTALS, ROADS of a DAY; SORTS far from one another but 0 and 1. */
    static CountTreaty known() {
        CountTreaty x = new CountTreaty();
        x.site(0, 0, true, false);
        x.site(0, 0, false, false);
        x.site(0, 1, true, false);
        x.site(0, 3, true, false);
        for (int a = 0; a < 3; a++) for (int b = a + 1; b < 4; b++) x.road(a, b, 1);
        x.sort(0, 10, 20, 10, 20);
        x.sort(1, 24, 30, 10, 20);
        x.sort(2, 100, 110, 100, 110);
        x.sort(3, 150, 160, 200, 210);
        x.rules(2, 5, 100);
        return x;
    }

    /** For a test's end: how many dues there were; a wrong one ends the run with 1. */
    static void close(String what, boolean good) {
        System.out.println(dues + " dues of " + what + ", " + wrong + " wrong");
        if (wrong > 0 || !good) System.exit(1);
    }
}
