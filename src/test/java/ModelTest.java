import java.util.ArrayList;
import java.util.List;
import java.util.Random;

/** Runs of up to 512 calls by seeded chances, each answer held against the Model's. Argument: how many runs (1200). */
public final class ModelTest {
    private final Random r;
    private final CountTreaty x = new CountTreaty();
    private final Model m = new Model();
    private final List<String> calls = new ArrayList<>();
    private final int pace;
    private boolean wrong = false;
    static final long[] TALLY = new long[9];

    private ModelTest(long seed) {
        r = new Random(seed);
        pace = new int[] {1, 3, 10, 90}[r.nextInt(4)];
    }

    private void due(String call, long got, long want) {
        calls.add(call + " = " + want);
        if (got != want) {
            wrong = true;
            calls.add("    BUT ANSWERED " + got);
        }
    }

    private static int bit(boolean b) { return b ? 1 : 0; }

    /** From low to high, at times just beyond, at times far. */
    private int n(int low, int high) {
        int chance = r.nextInt(60);
        if (chance == 0) return low - 1;
        if (chance == 1) return high + 1;
        if (chance == 2) return new int[] {Integer.MIN_VALUE, Integer.MAX_VALUE, -1, 0, 2000, 1999, 100}[r.nextInt(7)];
        return low + r.nextInt(Math.max(1, high - low + 1));
    }

    private int aSite() { return n(0, Math.max(0, m.s.sites.size() - 1)); }
    private int aThing() { return n(0, Math.max(0, m.s.things.size() - 1)); }
    private int aDay() { return r.nextInt(3) == 0 ? n(0, m.s.clock) : r.nextInt(12) == 0 ? n(0, 1999) : n(Math.max(0, m.s.clock - 3 * pace), Math.min(1999, m.s.clock + 2 * pace)); }
    private int aLand() { return n(0, 1); }

    private String one() {
        int k = r.nextInt(9);
        if (k < 5) return new String[] {"sort", "length", "weight", "class", "land"}[k];
        if (k == 5) return "" + r.nextInt(4);
        if (k == 6) return "" + r.nextInt(200);
        return "" + (r.nextInt(20) == 0 ? 9999 + r.nextInt(2) : r.nextInt(500));
    }

    private String condition(int depth) {
        int k = r.nextInt(depth > 10 ? 1 : 9);
        if (k < 4) return one() + " " + new String[] {"<", "<=", ">", ">=", "=", "#"}[r.nextInt(6)] + (r.nextBoolean() ? " " : "") + one();
        if (k < 5) return "not " + condition(depth + 1);
        if (k < 6) return "(" + condition(depth + 1) + ")";
        return condition(depth + 2) + new String[] {" and ", " or ", ")or(", " and\nnot "}[r.nextInt(20) == 0 ? 2 : r.nextInt(3) * 3 % 4] + condition(depth + 2);
    }

    private String clause() {
        switch (r.nextInt(9)) {
            case 0: return "limit " + n(0, r.nextBoolean() ? 3 : 99) + " from " + n(0, 500) + " to " + n(400, 1999) + ";";
            case 1: return "tell " + n(0, r.nextBoolean() ? 3 : 360) + ";";
            case 2: return "visits " + n(0, r.nextBoolean() ? 4 : 99) + " ;";
            case 3: return "steps " + n(1, 9) + " wait " + n(0, r.nextBoolean() ? 5 : 99) + ";";
            case 4: return "answer " + n(0, r.nextBoolean() ? 5 : 360) + ";\n";
            case 5:
            case 6: return "veil " + condition(0) + ";";
            default: return "counts " + condition(0) + ";";
        }
    }

    private String words() {
        StringBuilder t = new StringBuilder();
        if (r.nextInt(12) == 0) {
            for (int i = 10 + r.nextInt(8); i > 0; i--) t.append("tell ").append(r.nextInt(9)).append(";");
        }
        for (int i = r.nextInt(7); i > 0; i--) t.append(clause());
        if (r.nextInt(10) == 0) t.append("counts ").append("not ".repeat(r.nextInt(11))).append("(".repeat(r.nextInt(4))).append("land=1;");
        int changes = r.nextInt(3) == 0 ? r.nextInt(3) : 0;
        for (int i = 0; i < changes && t.length() > 0; i++) {
            int at = r.nextInt(t.length());
            int k = r.nextInt(4);
            String signs = "<>=#();aAzZ@[`{/:09 \n\t!" + (char) 233 + (char) 0 + "=<";
            if (k == 0) t.deleteCharAt(at);
            else if (k == 1) t.insert(at, signs.charAt(r.nextInt(signs.length())));
            else if (k == 2) t.setCharAt(at, signs.charAt(r.nextInt(signs.length())));
            else t.setLength(at);
        }
        return t.length() > 300 ? t.substring(0, 300) : t.toString();
    }

    private void text() {
        String t = words();
        due("end(0)", x.end(0), m.end(0));
        for (int i = 0; i < t.length(); i += 20) {
            int[] w = new int[5];
            for (int k = 0; k < 20; k++) w[k / 4] = w[k / 4] << 8 | (i + k < t.length() ? t.charAt(i + k) : 0);
            due("feed", x.feed(w[0], w[1], w[2], w[3], w[4]), m.feed(w));
        }
        due("end(" + t.length() + ")", x.end(t.length()), m.end(t.length()));
        int from = r.nextInt(3) == 0 ? m.s.clock : n(m.s.clock, Math.min(1999, m.s.clock + 4 * pace));
        due("text(" + from + ") " + t, x.text(from), m.text(from));
        due("fault(0)", x.fault(0), m.fault(0));
        due("fault(1)", x.fault(1), m.fault(1));
    }

    private void build() {
        int k = r.nextInt(10);
        if (k < 4) {
            int land = aLand();
            int klass = n(0, 3);
            boolean p = r.nextInt(3) > 0;
            boolean c = r.nextInt(4) == 0;
            due("site(" + land + ", " + klass + ", " + p + ", " + c + ")", x.site(land, klass, p, c), m.site(land, klass, p, c));
        } else if (k < 8) {
            int a = aSite();
            int b = aSite();
            int d = n(1, pace > 10 ? 60 : 1 + r.nextInt(6));
            due("road(" + a + ", " + b + ", " + d + ")", x.road(a, b, d), m.road(a, b, d));
        } else if (k < 9) {
            int sort = n(0, 3);
            int a = n(1, 200);
            int b = n(Math.min(200, Math.max(1, a)), Math.min(200, Math.max(1, a) + 60));
            int c = n(1, 500);
            int d = n(Math.min(500, Math.max(1, c)), 500);
            due("sort(" + sort + ", " + a + ", " + b + ", " + c + ", " + d + ")", bit(x.sort(sort, a, b, c, d)), bit(m.sort(sort, a, b, c, d)));
        } else {
            int a = n(0, r.nextBoolean() ? 3 : 50);
            int b = n(0, r.nextBoolean() ? 5 : 50);
            int c = n(1, r.nextBoolean() ? 60 : 200);
            due("rules(" + a + ", " + b + ", " + c + ")", bit(x.rules(a, b, c)), bit(m.rules(a, b, c)));
        }
    }

    private void make() {
        int site = aSite();
        int sort = n(0, 3);
        boolean fitting = r.nextInt(4) > 0 && sort >= 0 && sort < 4;
        int length = fitting ? n(m.s.sorts[sort][0], m.s.sorts[sort][1]) : n(1, 200);
        int weight = fitting ? n(m.s.sorts[sort][2], m.s.sorts[sort][3]) : n(1, 500);
        due("make(" + site + ", " + sort + ", " + length + ", " + weight + ")", x.make(site, sort, length, weight), m.make(site, sort, length, weight));
    }

    private void act() {
        int a = aThing();
        int b = aSite();
        int land = r.nextInt(6) > 0 && m.isSite(b) ? 1 - m.s.sites.get(b).land() : aLand();
        switch (r.nextInt(24)) {
            case 0: make(); break;
            case 1:
            case 2:
            case 3:
            case 4: due("move(" + a + ", " + b + ")", x.move(a, b), m.move(a, b)); break;
            case 5:
            case 6:
            case 7:
                int c = r.nextInt(5) > 0 ? somethingAtScrap(a) : a;
                due("step(" + c + ")", x.step(c), m.step(c));
                break;
            case 8:
                int calm = r.nextInt(3) == 0 || m.s.seals.isEmpty() ? b : m.s.seals.get(r.nextInt(m.s.seals.size())).site();
                due("seal(" + calm + ")", x.seal(calm), m.seal(calm));
                break;
            case 9:
            case 10:
            case 11:
                int n = n(1, pace);
                due("days(" + n + ")", x.days(n), m.days(n));
                break;
            case 12:
            case 13:
            case 14:
            case 15: tell(); break;
            case 16:
            case 17:
                if (!m.s.seals.isEmpty() && r.nextInt(2) == 0) {
                    b = m.s.seals.get(r.nextInt(m.s.seals.size())).site();
                    land = 1 - m.s.sites.get(b).land();
                }
                due("visit(" + land + ", " + b + ")", x.visit(land, b), m.visit(land, b));
                break;
            case 18: due("picture(" + b + ")", x.picture(b), m.picture(b)); break;
            case 19:
                int d = aDay();
                due("cloud(" + b + ", " + d + ")", x.cloud(b, d), m.cloud(b, d));
                break;
            case 20:
                int e = aDay();
                due("watch(" + b + ", " + e + ")", x.watch(b, e), m.watch(b, e));
                break;
            case 21: due("ask(" + land + ", " + b + ")", x.ask(land, b), m.ask(land, b)); break;
            case 22:
                int q = n(0, Math.max(0, m.s.questions.size() - 1));
                due("answer(" + q + ")", bit(x.answer(q)), bit(m.answer(q)));
                break;
            default:
                if (r.nextInt(4) == 0) text();
                else if (r.nextInt(3) == 0) build();
                else if (r.nextInt(3) == 0) due("image()", x.image(), m.image());
                else if (r.nextInt(3) == 0) due("back()", x.back(), m.back());
                else due("chance(" + b + ", " + a + ")", bit(x.chance(b, a)), bit(m.chance(b, a)));
                break;
        }
    }

    private int somethingAtScrap(int otherwise) {
        List<Integer> all = new ArrayList<>();
        for (int t = 0; t < m.s.things.size(); t++) {
            int at = m.whereIs(t, m.s.clock);
            if (at < 100 && m.s.sites.get(at).klass() == 3) all.add(t);
        }
        return all.isEmpty() ? otherwise : all.get(r.nextInt(all.size()));
    }

    private void tell() {
        int a = aThing();
        int b = aSite();
        int d = r.nextInt(2) == 0 ? m.s.clock : n(0, m.s.clock);
        if (!m.s.moves.isEmpty() && r.nextInt(2) == 0) {
            Model.Move move = m.s.moves.get(r.nextInt(m.s.moves.size()));
            a = move.thing();
            b = move.to();
            d = move.coming();
        } else if (r.nextInt(6) == 0) {
            b = -1;
        } else if (m.isThing(a) && r.nextInt(3) > 0) {
            b = m.whereIs(a, d);
        }
        due("tell(" + a + ", " + b + ", " + d + ")", x.tell(a, b, d), m.tell(a, b, d));
    }

    private void look() {
        int a = aThing();
        int b = aSite();
        int c = aSite();
        int d = aDay();
        int q = r.nextInt(3) == 0 ? d : aDay();
        int sort = n(0, 3);
        boolean most = r.nextBoolean();
        switch (r.nextInt(22)) {
            case 0: due("way(" + b + ", " + c + ")", x.way(b, c), m.way(b, c)); break;
            case 1: due("where(" + a + ", " + d + ")", x.where(a, d), m.where(a, d)); break;
            case 2: for (int w = -1; w < 8; w++) due("thing(" + a + ", " + w + ")", x.thing(a, w), m.thing(a, w)); break;
            case 3:
                int seal = n(0, Math.max(0, m.s.seals.size() - 1));
                due("whole(" + seal + ", " + d + ")", x.whole(seal, d), m.whole(seal, d));
                break;
            case 4: for (int w = -1; w < 7; w++) due("says(" + d + ", " + w + ")", x.says(d, w), m.says(d, w)); break;
            case 5: due("counts(" + a + ", " + b + ", " + d + ")", x.counts(a, b, d), m.counts(a, b, d)); break;
            case 6: due("counted(" + sort + ", " + d + ")", x.counted(sort, d), m.counted(sort, d)); break;
            case 7: due("told(" + a + ", " + d + ", " + q + ")", x.told(a, d, q), m.told(a, d, q)); break;
            case 8: due("toldAt(" + b + ", " + sort + ", " + d + ", " + q + ")", x.toldAt(b, sort, d, q), m.toldAt(b, sort, d, q)); break;
            case 9:
                int v = n(0, Math.max(0, m.s.visits.size() - 1));
                for (int w = -1; w < 8; w++) due("saw(" + v + ", " + w + ")", x.saw(v, w), m.saw(v, w));
                break;
            case 10:
            case 11:
            case 12:
                int[] near = nearChange();
                if (near != null) {
                    b = near[0];
                    d = near[1];
                    q = r.nextInt(3) == 0 ? near[2] : Math.max(d, m.s.clock);
                }
                due("possible(" + b + ", " + sort + ", " + d + ", " + q + ", false)", x.possible(b, sort, d, q, false), m.possible(b, sort, d, q, false));
                due("possible(" + b + ", " + sort + ", " + d + ", " + q + ", " + most + ")", x.possible(b, sort, d, q, most), m.possible(b, sort, d, q, most));
                TALLY[8] += m.possible(b, sort, d, q, false) > 0 ? 1 : 0;
                break;
            case 13: due("doubted(" + b + ", " + sort + ", " + d + ", " + q + ")", x.doubted(b, sort, d, q), m.doubted(b, sort, d, q)); break;
            case 14:
                int i = n(0, 5);
                if (r.nextInt(3) == 0) due("doubt(" + d + ", " + q + ", " + i + ")", x.doubt(d, q, i), m.doubt(d, q, i));
                break;
            case 15: lookAtActs(d); break;
            case 16: for (int w = 0; w < 4; w++) lookAtActs(m.s.clock); break;
            case 17: lookAtShares(); break;
            case 18: lookAtShares(); break;
            case 19:
                int n = n(1, 30);
                due("unseen(" + sort + ", " + n + ")", x.unseen(sort, n), m.unseen(sort, n));
                int all = m.unseen(sort, n);
                int j = n(0, Math.max(0, all - 1));
                for (int w = -1; w < 4; w++) due("trick(" + sort + ", " + n + ", " + j + ", " + w + ")", x.trick(sort, n, j, w), m.trick(sort, n, j, w));
                break;
            case 20: for (int w = -1; w < 32; w++) due("about(" + w + ")", x.about(w), m.about(w)); break;
            default: due("fault(" + sort + ")", x.fault(sort), m.fault(sort)); break;
        }
    }

    /** A SITE, a DAY, a later one: about what the other LAND can know of. */
    private int[] nearChange() {
        List<int[]> all = new ArrayList<>();
        for (Model.Visit v : m.s.visits) all.add(new int[] {v.site(), v.day() - 1});
        for (Model.Picture p : m.s.pictures) all.add(new int[] {p.site(), p.day() - 1});
        for (Model.Spot p : m.s.seals) all.add(new int[] {p.site(), p.day()});
        for (Model.Move v : m.s.moves) {
            all.add(new int[] {v.from(), v.day()});
            all.add(new int[] {v.to(), v.coming()});
        }
        if (all.isEmpty() || r.nextInt(5) == 0) return null;
        int[] one = all.get(r.nextInt(all.size()));
        int d = Math.max(0, Math.min(1999, one[1] - 1 + r.nextInt(4)));
        return new int[] {one[0], d, Math.min(1999, d + r.nextInt(4 * pace + 1))};
    }

    private void lookAtActs(int known) {
        int i = n(0, Math.max(0, m.s.acts.size() - 1));
        int q = r.nextInt(4) == 0 ? aDay() : known;
        for (int w = -1; w < 5; w++) due("act(" + i + ", " + w + ")", x.act(i, w), m.actOf(i, w));
        due("judged(" + i + ", " + q + ")", x.judged(i, q), m.judged(i, q));
        if (m.judged(i, q) >= 0) TALLY[m.judged(i, q)]++;
        int v = n(1, 7);
        int k = n(0, r.nextBoolean() ? 0 : 3);
        due("fails(" + v + ", " + q + ", " + k + ")", x.fails(v, q, k), m.fails(v, q, k));
    }

    private void lookAtShares() {
        int set = r.nextInt(20) == 0 ? n(0, 2000) : r.nextInt(1 << Math.max(1, m.s.sites.size()));
        int q = n(1, 3);
        int site = aSite();
        int[] w = {n(0, 999), n(0, 9), n(0, 999), n(0, 999), n(0, 999)};
        List<Integer> sites = m.setOf(set, q);
        if (sites != null && r.nextBoolean()) {
            w[0] = w[1] = w[2] = w[3] = w[4] = 0;
            int least = 0;
            for (int i = 0; i < sites.size(); i++) if (m.s.chances.get(sites.get(i)) < m.s.chances.get(sites.get(least))) least = i;
            w[least] = 7;
            boolean even = r.nextBoolean();
            for (int i = 0; even && i < sites.size(); i++) w[i] = 600 / m.s.chances.get(sites.get(i));
        }
        due("value(" + set + ", " + q + ", false)", x.value(set, q, false), m.value(set, q, false));
        due("value(" + set + ", " + q + ", true)", x.value(set, q, true), m.value(set, q, true));
        due("share(" + set + ", " + q + ", " + site + ", false)", x.share(set, q, site, false), m.share(set, q, site, false));
        due("share(" + set + ", " + q + ", " + site + ", true)", x.share(set, q, site, true), m.share(set, q, site, true));
        due("proof(" + set + ", " + q + ", " + java.util.Arrays.toString(w) + ")", x.proof(set, q, w[0], w[1], w[2], w[3], w[4]), m.proof(set, q, w));
    }

    private boolean play() {
        int building = 10 + r.nextInt(30);
        int making = r.nextInt(30);
        int reading = r.nextInt(5);
        while (calls.size() < 470 && !wrong) {
            if (building-- > 0) build();
            else if (making-- > 0) make();
            else if (reading-- > 0) text();
            else if (r.nextInt(5) < 2) look();
            else act();
        }
        return !wrong;
    }

    public static void main(String[] args) {
        int runs = args.length > 0 ? Integer.parseInt(args[0]) : 1200;
        int first = args.length > 1 ? Integer.parseInt(args[1]) : 0;
        for (int seed = first; seed < first + runs; seed++) {
            ModelTest t = new ModelTest(seed);
            if (!t.play()) {
                t.calls.forEach(System.out::println);
                System.out.println("run by seed " + seed + " isn't as the model");
                System.exit(1);
            }
        }
        System.out.println(runs + " runs are as the model; judged " + java.util.Arrays.toString(TALLY));
    }
}
