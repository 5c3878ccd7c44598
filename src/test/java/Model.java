import java.math.BigInteger;
import java.util.ArrayList;
import java.util.Arrays;
import java.util.HashMap;
import java.util.List;
import java.util.Map;

/**
 * The document once more, as slowly and plainly as it can be said: lists of what was done, from which each
 * answer is worked out anew, DAY by DAY. ModelTest holds CountTreaty against it.
 */
final class Model {
    record Site(int land, int klass, boolean portal, boolean covered) { }
    record Road(int a, int b, int days) { }
    record Thing(int sort, int length, int weight, int site, int day) { }
    record Move(int thing, int from, int to, int day, int coming) { }
    record Step(int thing, int day) { }
    record Spot(int site, int day) { }
    record Clause(String kind, int[] n, Ask ask) { }
    record Text(int from, List<Clause> clauses) { }
    record Told(int thing, int place, int from, int day) { }
    record Visit(int land, int site, int day, int[] saw, int seal) { }
    record Picture(int site, int day, int number) { }
    record Question(int land, int site, int day) { }
    record Act(int kind, int day, int land, int of, int number) { }

    interface Ask { boolean so(int[] fields); }
    interface One { int of(int[] fields); }

    static final class Fault extends RuntimeException {
        private static final long serialVersionUID = 1L;
        final int why;
        final int at;
        Fault(int why, int at) { this.why = why; this.at = at; }
    }

    /** All that an image keeps. */
    static final class All {
        int clock = 0;
        int el = 2;
        int ew = 5;
        int seen = 40;
        int[][] sorts = new int[4][];
        List<Site> sites = new ArrayList<>();
        List<Integer> chances = new ArrayList<>();
        List<Road> roads = new ArrayList<>();
        List<Thing> things = new ArrayList<>();
        List<Move> moves = new ArrayList<>();
        List<Step> steps = new ArrayList<>();
        Map<Integer, Integer> gone = new HashMap<>();
        List<Spot> seals = new ArrayList<>();
        List<Text> texts = new ArrayList<>();
        List<Told> tolds = new ArrayList<>();
        List<Visit> visits = new ArrayList<>();
        List<Picture> pictures = new ArrayList<>();
        List<Question> questions = new ArrayList<>();
        Map<Integer, Integer> answers = new HashMap<>();
        List<Act> acts = new ArrayList<>();
        List<Spot> clouds = new ArrayList<>();
        List<Spot> watches = new ArrayList<>();

        All() { for (int i = 0; i < 4; i++) sorts[i] = new int[] {1, 200, 1, 500}; }

        All copy() {
            All c = new All();
            c.clock = clock; c.el = el; c.ew = ew; c.seen = seen;
            for (int i = 0; i < 4; i++) c.sorts[i] = sorts[i].clone();
            c.sites.addAll(sites); c.chances.addAll(chances); c.roads.addAll(roads); c.things.addAll(things);
            c.moves.addAll(moves); c.steps.addAll(steps); c.gone.putAll(gone); c.seals.addAll(seals);
            c.texts.addAll(texts); c.tolds.addAll(tolds); c.visits.addAll(visits); c.pictures.addAll(pictures);
            c.questions.addAll(questions); c.answers.putAll(answers); c.acts.addAll(acts);
            c.clouds.addAll(clouds); c.watches.addAll(watches);
            return c;
        }
    }

    All s = new All();
    All kept = new All();
    StringBuilder tape = new StringBuilder();
    boolean read = false;
    int fault = 0;
    int place = -1;

    static boolean in(int n, int low, int high) { return n >= low && n <= high; }
    static boolean day(int d) { return in(d, 0, 1999); }
    boolean isSite(int i) { return in(i, 0, s.sites.size() - 1); }
    boolean isThing(int i) { return in(i, 0, s.things.size() - 1); }
    int landOf(int thing) { return s.sites.get(s.things.get(thing).site()).land(); }

    int site(int land, int klass, boolean portal, boolean covered) {
        if (!in(land, 0, 1) || !in(klass, 0, 3) || s.sites.size() == 10) return -1;
        s.sites.add(new Site(land, klass, portal, covered));
        s.chances.add(10);
        return s.sites.size() - 1;
    }

    int road(int a, int b, int days) {
        if (!isSite(a) || !isSite(b) || a == b || !in(days, 1, 60) || s.roads.size() == 30) return -1;
        if (s.sites.get(a).land() != s.sites.get(b).land()) return -1;
        s.roads.add(new Road(a, b, days));
        return s.roads.size() - 1;
    }

    int way(int a, int b) {
        if (!isSite(a) || !isSite(b)) return -1;
        int[] least = new int[10];
        Arrays.fill(least, 1000000);
        least[a] = 0;
        for (int round = 0; round < 10; round++) {
            for (Road r : s.roads) {
                least[r.a()] = Math.min(least[r.a()], least[r.b()] + r.days());
                least[r.b()] = Math.min(least[r.b()], least[r.a()] + r.days());
            }
        }
        return least[b] >= 1000000 ? -1 : least[b];
    }

    boolean sort(int sort, int a, int b, int c, int d) {
        if (!in(sort, 0, 3) || !s.things.isEmpty()) return false;
        if (!in(a, 1, 200) || !in(b, a, 200) || !in(c, 1, 500) || !in(d, c, 500)) return false;
        s.sorts[sort] = new int[] {a, b, c, d};
        return true;
    }

    boolean rules(int el, int ew, int seen) {
        if (!in(el, 0, 50) || !in(ew, 0, 50) || !in(seen, 1, 200) || !s.things.isEmpty()) return false;
        s.el = el; s.ew = ew; s.seen = seen;
        return true;
    }

    void act(int kind, int land, int of, int number) { s.acts.add(new Act(kind, s.clock, land, of, number)); }

    int make(int site, int sort, int length, int weight) {
        if (!isSite(site) || !in(sort, 0, 3) || !in(length, 1, 200) || !in(weight, 1, 500)) return -1;
        if (s.things.size() == 40 || s.clock > 0 && s.sites.get(site).klass() != 1) return -1;
        s.things.add(new Thing(sort, length, weight, site, s.clock));
        int t = s.things.size() - 1;
        act(0, landOf(t), t, t);
        return t;
    }

    int whereIs(int thing, int day) {
        if (day < s.things.get(thing).day()) return 102;
        if (s.gone.containsKey(thing) && day >= s.gone.get(thing)) return 101;
        int at = s.things.get(thing).site();
        for (Move m : s.moves) {
            if (m.thing() == thing && m.day() <= day) at = day < m.coming() ? 100 : m.to();
        }
        return at;
    }

    int move(int thing, int site) {
        if (!isThing(thing) || !isSite(site) || s.moves.size() == 100) return -1;
        int from = whereIs(thing, s.clock);
        if (from >= 100 || from == site || s.sites.get(site).land() != landOf(thing)) return -1;
        int way = way(from, site);
        if (way == -1 || s.clock + way > 1999) return -1;
        s.moves.add(new Move(thing, from, site, s.clock, s.clock + way));
        act(1, landOf(thing), thing, s.moves.size() - 1);
        return s.moves.size() - 1;
    }

    int stepsOf(int thing) { return (int) s.steps.stream().filter(x -> x.thing() == thing).count(); }

    int step(int thing) {
        if (!isThing(thing)) return -1;
        int at = whereIs(thing, s.clock);
        if (at >= 100 || s.sites.get(at).klass() != 3) return -1;
        if (s.steps.contains(new Step(thing, s.clock))) return -1;
        s.steps.add(new Step(thing, s.clock));
        act(2, landOf(thing), thing, s.steps.size() - 1);
        if (stepsOf(thing) >= says(s.clock, 3)) s.gone.put(thing, s.clock);
        return stepsOf(thing);
    }

    boolean whole(Spot seal, int day) {
        for (int d = seal.day() + 1; d <= day; d++) {
            for (Move m : s.moves) {
                if (m.from() == seal.site() && m.day() == d || m.to() == seal.site() && m.coming() == d) return false;
            }
        }
        return true;
    }

    boolean sealed(int site) {
        for (Spot seal : s.seals) if (seal.site() == site && whole(seal, s.clock)) return true;
        return false;
    }

    int seal(int site) {
        if (!isSite(site) || s.seals.size() == 40 || sealed(site)) return -1;
        s.seals.add(new Spot(site, s.clock));
        return s.seals.size() - 1;
    }

    int days(int n) {
        if (!in(n, 1, 400) || s.clock + n > 1999) return -1;
        return s.clock += n;
    }

    int where(int thing, int day) { return isThing(thing) && day(day) ? whereIs(thing, day) : -1; }

    int thing(int thing, int what) {
        if (!isThing(thing)) return -1;
        Thing t = s.things.get(thing);
        switch (what) {
            case 0: return t.sort();
            case 1: return t.length();
            case 2: return t.weight();
            case 3: return landOf(thing);
            case 4: return t.day();
            case 5: return stepsOf(thing);
            case 6: return (int) s.moves.stream().filter(m -> m.thing() == thing).count();
            default: return -1;
        }
    }

    int whole(int seal, int day) {
        if (!in(seal, 0, s.seals.size() - 1) || !day(day) || day < s.seals.get(seal).day()) return -1;
        return whole(s.seals.get(seal), day) ? 1 : 0;
    }

    int feed(int... words) {
        if (tape.length() > 280) return -1;
        for (int w : words) for (int i = 3; i >= 0; i--) tape.append((char) (w >>> 8 * i & 255));
        return tape.length();
    }

    int end(int n) {
        if (!in(n, 0, tape.length())) return -1;
        tape.setLength(n);
        return n;
    }

    int text(int from) {
        if (!in(from, s.clock, 1999) || s.texts.size() == 10) return -1;
        Parse p = new Parse(tape.toString());
        tape.setLength(0);
        read = true;
        try {
            List<Clause> clauses = p.text();
            s.texts.add(new Text(from, clauses));
            fault = 0;
            place = -1;
            return s.texts.size() - 1;
        } catch (Fault f) {
            fault = f.why;
            place = f.at;
            return -1;
        }
    }

    int fault(int what) { return !read ? -1 : what == 0 ? fault : what == 1 ? place : -1; }

    /** The tape is cut as it is read: look() tells the next TOKEN, take() goes behind it. */
    static final class Parse {
        final String t;
        int i = 0;
        Parse(String t) { this.t = t; }

        void blanks() { while (i < t.length() && (t.charAt(i) == 32 || t.charAt(i) == 10)) i++; }

        String look() {
            blanks();
            if (i == t.length()) return "";
            String rest = t.substring(i);
            for (String form : new String[] {"[a-zA-Z]+", "[0-9]+", "<=|>=|<|>|=|#|\\(|\\)|;"}) {
                java.util.regex.Matcher m = java.util.regex.Pattern.compile(form).matcher(rest);
                if (m.lookingAt()) return m.group();
            }
            return "?";
        }

        String take() {
            String token = look();
            i += token.length();
            return token;
        }

        Fault fault(int why) { blanks(); return new Fault(why, i); }
        void due(String token) { if (!look().equals(token)) throw fault(1); take(); }

        int number(int low, int high) {
            if (!look().matches("[0-9]+")) throw fault(1);
            BigInteger n = new BigInteger(look());
            if (n.compareTo(BigInteger.valueOf(low)) < 0 || n.compareTo(BigInteger.valueOf(high)) > 0) throw fault(2);
            take();
            return n.intValue();
        }

        List<Clause> text() {
            List<Clause> all = new ArrayList<>();
            while (!look().isEmpty()) {
                if (!look().matches("counts|limit|tell|visits|veil|steps|answer")) throw fault(1);
                if (all.size() == 16) throw fault(4);
                all.add(clause(take()));
            }
            return all;
        }

        Clause clause(String kind) {
            int[] n = new int[3];
            Ask ask = null;
            switch (kind) {
                case "limit":
                    n[0] = number(0, 99);
                    due("from");
                    n[1] = number(0, 1999);
                    due("to");
                    n[2] = number(n[1], 1999);
                    break;
                case "steps":
                    n[0] = number(1, 9);
                    due("wait");
                    n[1] = number(0, 99);
                    break;
                case "tell":
                case "answer": n[0] = number(0, 360); break;
                case "visits": n[0] = number(0, 99); break;
                default: ask = either(0); break;
            }
            due(";");
            return new Clause(kind, n, ask);
        }

        Ask either(int open) {
            Ask a = both(open);
            if (!look().equals("or")) return a;
            take();
            Ask b = either(open);
            return f -> a.so(f) || b.so(f);
        }

        Ask both(int open) {
            Ask a = ask(open);
            if (!look().equals("and")) return a;
            take();
            Ask b = both(open);
            return f -> a.so(f) && b.so(f);
        }

        Ask ask(int open) {
            if (look().equals("not") || look().equals("(")) {
                if (open == 8) throw fault(3);
                if (take().equals("not")) {
                    Ask a = ask(open + 1);
                    return f -> !a.so(f);
                }
                Ask a = either(open + 1);
                due(")");
                return a;
            }
            One l = one();
            if (!look().matches("<|<=|>|>=|=|#")) throw fault(1);
            String sign = take();
            One r = one();
            switch (sign) {
                case "<": return f -> l.of(f) < r.of(f);
                case "<=": return f -> l.of(f) <= r.of(f);
                case ">": return f -> l.of(f) > r.of(f);
                case ">=": return f -> l.of(f) >= r.of(f);
                case "=": return f -> l.of(f) == r.of(f);
                default: return f -> l.of(f) != r.of(f);
            }
        }

        One one() {
            List<String> names = List.of("sort", "length", "weight", "class", "land");
            if (names.contains(look())) {
                int i = names.indexOf(take());
                return f -> f[i];
            }
            int n = number(0, 9999);
            return f -> n;
        }
    }

    List<Clause> theText(String kind, int day) {
        Text best = null;
        for (Text t : s.texts) {
            boolean has = t.clauses().stream().anyMatch(c -> c.kind().equals(kind));
            if (has && t.from() <= day && (best == null || t.from() >= best.from())) best = t;
        }
        return best == null ? null : best.clauses().stream().filter(c -> c.kind().equals(kind)).toList();
    }

    int says(int day, int what) {
        if (!day(day) || !in(what, 0, 5)) return -1;
        String kind = List.of("limit", "tell", "visits", "steps", "steps", "answer").get(what);
        List<Clause> c = theText(kind, day);
        int[] without = {99, 30, 99, 3, 0, 30};
        if (c == null) return without[what];
        if (what == 0) {
            return c.stream().filter(x -> in(day, x.n()[1], x.n()[2])).mapToInt(x -> x.n()[0]).min().orElse(99);
        }
        return c.get(0).n()[what == 4 ? 1 : 0];
    }

    int[] fields(int thing, int klass) {
        Thing t = s.things.get(thing);
        return new int[] {t.sort(), t.length(), t.weight(), klass, landOf(thing)};
    }

    boolean countsAt(int thing, int site, int day) {
        List<Clause> c = theText("counts", day);
        if (c == null) return true;
        int[] f = fields(thing, site == -1 ? 4 : s.sites.get(site).klass());
        return c.stream().anyMatch(x -> x.ask().so(f));
    }

    int counts(int thing, int site, int day) {
        if (!isThing(thing) || site != -1 && !isSite(site) || !day(day)) return -1;
        return countsAt(thing, site, day) ? 1 : 0;
    }

    int counted(int land, int day) {
        if (!in(land, 0, 1) || !day(day)) return -1;
        int n = 0;
        for (int t = 0; t < s.things.size(); t++) {
            int at = whereIs(t, day);
            if (landOf(t) == land && at <= 100 && countsAt(t, at == 100 ? -1 : at, day)) n++;
        }
        return n;
    }

    int tell(int thing, int site, int day) {
        if (!isThing(thing) || site != -1 && !isSite(site) || !in(day, 0, s.clock) || s.tolds.size() == 200) return -1;
        if (site != -1 && s.sites.get(site).land() != landOf(thing)) return -1;
        s.tolds.add(new Told(thing, site == -1 ? 101 : site, day, s.clock));
        act(3, landOf(thing), thing, s.tolds.size() - 1);
        return s.tolds.size() - 1;
    }

    int told(int thing, int day, int known) {
        if (!isThing(thing) || !day(day) || !day(known)) return -1;
        Told best = null;
        for (Told t : s.tolds) {
            if (t.thing() == thing && t.from() <= day && t.day() <= known && (best == null || t.from() >= best.from())) best = t;
        }
        return best == null ? -1 : best.place();
    }

    int toldAt(int site, int sort, int day, int known) {
        if (!isSite(site) || !in(sort, 0, 3) || !day(day) || !day(known)) return -1;
        int n = 0;
        for (int t = 0; t < s.things.size(); t++) if (s.things.get(t).sort() == sort && told(t, day, known) == site) n++;
        return n;
    }

    int visit(int land, int site) {
        if (!in(land, 0, 1) || !isSite(site) || s.sites.get(site).land() == land) return -1;
        if (s.clock == 0 || s.visits.size() == 100) return -1;
        int[] saw = new int[7];
        List<Clause> veils = theText("veil", s.clock);
        for (int t = 0; t < s.things.size(); t++) {
            if (whereIs(t, s.clock - 1) != site) continue;
            int[] f = fields(t, s.sites.get(site).klass());
            boolean veiled = veils != null && veils.stream().anyMatch(c -> c.ask().so(f));
            saw[veiled ? 4 : s.things.get(t).sort()]++;
        }
        int seal = -1;
        for (int i = 0; i < s.seals.size(); i++) {
            if (s.seals.get(i).site() == site && s.seals.get(i).day() <= s.clock - 1) seal = i;
        }
        saw[5] = seal == -1 ? -1 : whole(s.seals.get(seal), s.clock - 1) ? 1 : 0;
        saw[6] = s.clock;
        s.visits.add(new Visit(land, site, s.clock, saw, seal));
        act(4, land, site, s.visits.size() - 1);
        return s.visits.size() - 1;
    }

    int saw(int visit, int what) {
        return in(visit, 0, s.visits.size() - 1) && in(what, 0, 6) ? s.visits.get(visit).saw()[what] : -1;
    }

    int cloud(int site, int day) {
        if (!isSite(site) || !day(day) || s.clouds.size() == 60 || s.clouds.contains(new Spot(site, day))) return -1;
        s.clouds.add(new Spot(site, day));
        return s.clouds.size();
    }

    int picture(int site) {
        if (!isSite(site) || s.sites.get(site).covered() || s.clock == 0 || s.pictures.size() == 100) return -1;
        if (s.clouds.contains(new Spot(site, s.clock))) return -1;
        int n = 0;
        for (int t = 0; t < s.things.size(); t++) {
            if (whereIs(t, s.clock - 1) == site && s.things.get(t).length() >= s.seen) n++;
        }
        s.pictures.add(new Picture(site, s.clock, n));
        return n;
    }

    boolean fits(Thing t, int sort) {
        boolean length = false;
        boolean weight = false;
        for (int l = t.length() - s.el; l <= t.length() + s.el; l++) length |= in(l, s.sorts[sort][0], s.sorts[sort][1]);
        for (int w = t.weight() - s.ew; w <= t.weight() + s.ew; w++) weight |= in(w, s.sorts[sort][2], s.sorts[sort][3]);
        return length && weight;
    }

    boolean[] recorded(boolean[] set, int thing, int sort, int change) {
        int fitting = 0;
        for (int i = 0; i < 4; i++) if (fits(s.things.get(thing), i)) fitting++;
        if (!fits(s.things.get(thing), sort)) return set;
        boolean[] next = new boolean[41];
        for (int n = 0; n <= 40; n++) {
            if (!set[n]) continue;
            if (fitting > 1) next[n] = true;
            if (in(n + change, 0, 40)) next[n + change] = true;
        }
        return next;
    }

    boolean[] possibleSet(int site, int sort, int last, int known) {
        boolean[] set = new boolean[41];
        Arrays.fill(set, true);
        for (int d = 0; d <= last; d++) {
            boolean quiet = false;
            for (Visit v : s.visits) {
                quiet |= v.site() == site && v.saw()[5] == 1 && v.day() > d && v.day() <= known && s.seals.get(v.seal()).day() < d;
            }
            if (!quiet && !s.sites.get(site).portal()) {
                Arrays.fill(set, true);
            } else if (!quiet) {
                for (Move m : s.moves) {
                    if (m.from() == site && m.day() == d) set = recorded(set, m.thing(), sort, -1);
                    if (m.to() == site && m.coming() == d) set = recorded(set, m.thing(), sort, 1);
                }
            }
            int klass = s.sites.get(site).klass();
            if (klass == 1) for (int n = 1; n <= 40; n++) set[n] |= set[n - 1];
            if (klass == 3) for (int n = 39; n >= 0; n--) set[n] |= set[n + 1];
            if (d + 1 > known) continue;
            for (int n = 0; n <= 40; n++) {
                for (Visit v : s.visits) {
                    if (v.site() == site && v.day() == d + 1 && !in(n, v.saw()[sort], v.saw()[sort] + v.saw()[4])) set[n] = false;
                }
                for (Picture p : s.pictures) {
                    if (p.site() == site && p.day() == d + 1 && s.sorts[sort][0] >= s.seen && n > p.number()) set[n] = false;
                }
            }
        }
        return set;
    }

    int possible(int site, int sort, int day, int known, boolean most) {
        if (!isSite(site) || !in(sort, 0, 3) || !day(day) || !day(known) || day > known) return -1;
        boolean[] set = possibleSet(site, sort, day, known);
        int found = -1;
        for (int n = 0; n <= 40; n++) if (set[n] && (most || found == -1)) found = n;
        return found;
    }

    int doubted(int site, int sort, int day, int known) {
        if (!isSite(site) || !in(sort, 0, 3) || !day(day) || !day(known) || day > known) return -1;
        return possibleSet(site, sort, day, known)[toldAt(site, sort, day, known)] ? 0 : 1;
    }

    int doubt(int day, int known, int i) {
        if (!day(day) || !day(known) || day > known) return -1;
        List<Integer> all = new ArrayList<>();
        for (int site = 0; site < s.sites.size(); site++) {
            for (int sort = 0; sort < 4; sort++) if (doubted(site, sort, day, known) == 1) all.add(4 * site + sort);
        }
        return in(i, 0, all.size() - 1) ? all.get(i) : -1;
    }

    int ask(int land, int site) {
        if (!in(land, 0, 1) || !isSite(site) || s.sites.get(site).land() == land || s.questions.size() == 50) return -1;
        s.questions.add(new Question(land, site, s.clock));
        act(5, land, site, s.questions.size() - 1);
        return s.questions.size() - 1;
    }

    boolean answer(int q) {
        if (!in(q, 0, s.questions.size() - 1) || s.answers.containsKey(q)) return false;
        s.answers.put(q, s.clock);
        act(6, s.sites.get(s.questions.get(q).site()).land(), q, q);
        return true;
    }

    int actOf(int i, int what) {
        if (!in(i, 0, s.acts.size() - 1)) return -1;
        Act a = s.acts.get(i);
        return what == 0 ? a.kind() : what == 1 ? a.day() : what == 2 ? a.land() : what == 3 ? a.of() : -1;
    }

    int judge(Act a, int known) {
        switch (a.kind()) {
            case 0:
            case 1:
                if (counted(a.land(), a.day()) > says(a.day(), 0)) return 1;
                if (a.kind() == 0) return 0;
                Move m = s.moves.get(a.number());
                int last = m.coming() + says(m.coming(), 1);
                for (Told t : s.tolds) {
                    if (t.equals(new Told(m.thing(), m.to(), m.coming(), t.day())) && t.day() <= last && t.day() <= known) return 0;
                }
                return known > last ? 2 : 3;
            case 2:
                int ahead = -1;
                for (int i = 0; i < a.number(); i++) if (s.steps.get(i).thing() == a.of()) ahead = s.steps.get(i).day();
                return ahead != -1 && a.day() - ahead < says(a.day(), 4) ? 4 : 0;
            case 3:
                Told t = s.tolds.get(a.number());
                return whereIs(t.thing(), t.from()) == t.place() ? 0 : 5;
            case 4:
                int visits = 0;
                for (int i = 0; i < a.number(); i++) {
                    if (s.visits.get(i).land() == a.land() && s.visits.get(i).day() / 360 == a.day() / 360) visits++;
                }
                return visits >= says(a.day(), 2) ? 6 : 0;
            case 5:
                int end = a.day() + says(a.day(), 5);
                int answered = s.answers.getOrDefault(a.number(), 9999);
                return answered <= end && answered <= known ? 0 : known > end ? 7 : 3;
            default: return 0;
        }
    }

    int judged(int i, int known) {
        if (!in(i, 0, s.acts.size() - 1) || !day(known) || known < s.acts.get(i).day()) return -1;
        return judge(s.acts.get(i), known);
    }

    int fails(int v, int known, int i) {
        if (!in(v, 1, 7) || !day(known)) return -1;
        List<Integer> all = new ArrayList<>();
        for (int a = 0; a < s.acts.size(); a++) if (judged(a, known) == v) all.add(a);
        return in(i, 0, all.size() - 1) ? all.get(i) : -1;
    }

    boolean chance(int site, int v) {
        if (!isSite(site) || !in(v, 1, 50)) return false;
        s.chances.set(site, v);
        return true;
    }

    List<Integer> setOf(int set, int q) {
        List<Integer> all = new ArrayList<>();
        for (int i = 0; i < 32; i++) if ((set >>> i & 1) == 1) all.add(i);
        if (!in(all.size(), 1, 5) || !isSite(all.get(all.size() - 1)) || !in(q, 1, all.size())) return null;
        return all;
    }

    static long part(BigInteger up, BigInteger low, boolean lower) {
        BigInteger g = up.gcd(low);
        return (lower ? low : up).divide(g).longValue();
    }

    /** Over one common denominator that holds each CHANCE: so no division is needed but the last one. */
    BigInteger[] valueOf(List<Integer> sites, int q) {
        BigInteger all = BigInteger.ONE;
        for (int i = 1; i <= 50; i++) all = all.multiply(BigInteger.valueOf(i));
        BigInteger sum = BigInteger.ZERO;
        int least = 50;
        for (int i : sites) {
            sum = sum.add(all.divide(BigInteger.valueOf(s.chances.get(i))));
            least = Math.min(least, s.chances.get(i));
        }
        BigInteger up = all.multiply(BigInteger.valueOf(q));
        if (up.compareTo(sum.multiply(BigInteger.valueOf(least))) > 0) return new BigInteger[] {BigInteger.valueOf(least), BigInteger.ONE};
        return new BigInteger[] {up, sum};
    }

    long value(int set, int q, boolean lower) {
        List<Integer> sites = setOf(set, q);
        if (sites == null) return -1;
        BigInteger[] v = valueOf(sites, q);
        return part(v[0], v[1], lower);
    }

    long share(int set, int q, int site, boolean lower) {
        List<Integer> sites = setOf(set, q);
        if (sites == null || !sites.contains(site)) return -1;
        BigInteger[] v = valueOf(sites, q);
        return part(v[0], v[1].multiply(BigInteger.valueOf(s.chances.get(site))), lower);
    }

    int proof(int set, int q, int... weights) {
        List<Integer> sites = setOf(set, q);
        if (sites == null) return -1;
        List<Long> products = new ArrayList<>();
        long sum = 0;
        for (int i = 0; i < sites.size(); i++) {
            if (!in(weights[i], 0, 999)) return -1;
            sum += weights[i];
            products.add((long) weights[i] * s.chances.get(sites.get(i)));
        }
        if (sum == 0) return -1;
        products.sort(java.util.Comparator.reverseOrder());
        long top = 0;
        for (int i = 0; i < q; i++) top += products.get(i);
        BigInteger[] v = valueOf(sites, q);
        int c = BigInteger.valueOf(top).multiply(v[1]).compareTo(v[0].multiply(BigInteger.valueOf(sum)));
        if (c < 0) throw new IllegalStateException("a bound below VALUE");
        return c;
    }

    int watch(int site, int day) {
        if (!isSite(site) || !in(day, s.clock, 1999) || s.watches.size() == 60 || s.watches.contains(new Spot(site, day))) return -1;
        s.watches.add(new Spot(site, day));
        return s.watches.size();
    }

    boolean watched(int site, int day, int thing) {
        Spot spot = new Spot(site, day);
        return s.watches.contains(spot) && !s.clouds.contains(spot) && !s.sites.get(site).covered() && s.things.get(thing).length() >= s.seen;
    }

    List<int[]> tricks(int land, int n) {
        List<int[]> all = new ArrayList<>();
        for (int t = 0; t < s.things.size(); t++) {
            int at = whereIs(t, s.clock);
            if (landOf(t) != land || at >= 100 || s.sites.get(at).portal() || sealed(at)) continue;
            for (int to = 0; to < s.sites.size(); to++) {
                if (to == at || way(at, to) == -1 || s.sites.get(to).portal() || sealed(to)) continue;
                for (int d = s.clock; d < s.clock + n && d <= 1999; d++) {
                    if (!watched(at, d, t) && !watched(to, d, t)) all.add(new int[] {t, to, d});
                }
            }
        }
        return all;
    }

    int unseen(int land, int n) { return in(land, 0, 1) && in(n, 1, 30) ? tricks(land, n).size() : -1; }

    int trick(int land, int n, int i, int what) {
        if (!in(land, 0, 1) || !in(n, 1, 30) || !in(what, 0, 2)) return -1;
        List<int[]> all = tricks(land, n);
        return in(i, 0, all.size() - 1) ? all.get(i)[what] : -1;
    }

    int image() { kept = s.copy(); return s.clock; }
    int back() { s = kept.copy(); return s.clock; }

    int about(int what) {
        int[] all = {s.clock, s.sites.size(), s.roads.size(), s.things.size(), s.moves.size(), s.seals.size(), s.texts.size(),
            s.tolds.size(), s.visits.size(), s.pictures.size(), s.questions.size(), s.acts.size(), tape.length(),
            s.clouds.size(), s.watches.size(), s.seen};
        if (in(what, 0, 15)) return all[what];
        return in(what, 20, 29) && isSite(what - 20) ? s.chances.get(what - 20) : -1;
    }
}
