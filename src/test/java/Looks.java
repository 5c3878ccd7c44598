import java.util.ArrayList;
import java.util.List;
import java.util.function.Supplier;
import java.util.function.ToLongFunction;

/**
 * Whether a call leaves everything as it is: two objects are made alike, one of them is called, and both are looked
 * at from all sides. Each look takes new objects, so that none is used for more than 512 calls.
 */
final class Looks extends Dues {
    private static final int PARTS = 18;
    private final CountTreaty x;
    private final int clock;
    private final List<Long> seen = new ArrayList<>();

    private Looks(CountTreaty x) {
        this.x = x;
        this.clock = x.about(0);
    }

    /** The call answers NONE (or false), and changes nothing. */
    static void refused(String call, Supplier<CountTreaty> made, ToLongFunction<CountTreaty> called, long answer) {
        due(call, called.applyAsLong(made.get()), answer);
        same(call, made, () -> {
            CountTreaty x = made.get();
            called.applyAsLong(x);
            return x;
        });
    }

    static void refused(String call, Supplier<CountTreaty> made, ToLongFunction<CountTreaty> called) {
        refused(call, made, called, CountTreaty.NONE);
    }

    /** Two objects are alike, from all sides. */
    static void same(String call, Supplier<CountTreaty> one, Supplier<CountTreaty> other) {
        for (int part = 0; part < PARTS; part++) {
            List<Long> a = look(one.get(), part);
            List<Long> b = look(other.get(), part);
            int i = 0;
            while (i < a.size() && i < b.size() && a.get(i).equals(b.get(i))) i++;
            due(call + ": look " + part + " is alike up to its answer", i, Math.max(a.size(), b.size()));
        }
    }

    private static List<Long> look(CountTreaty x, int part) {
        Looks l = new Looks(x);
        switch (part) {
            case 0: l.numbers(); break;
            case 1: l.treaty(); break;
            case 2: l.things(0); break;
            case 3: l.things(20); break;
            case 4: l.places(0); break;
            case 5: l.places(20); break;
            case 6: l.seals(); break;
            case 7: l.acts(); break;
            case 8: l.told(); break;
            case 9: l.visits(); break;
            case 10: l.possible(clockOf(x)); break;
            case 11: l.possible(Math.max(0, clockOf(x) - 1)); break;
            case 12: l.doubts(); break;
            case 13: l.tricks(); break;
            case 14: l.shares(); break;
            case 15: l.theNext(); break;
            case 16: l.tape(); break;
            default: l.image(); break;
        }
        return l.seen;
    }

    private static int clockOf(CountTreaty x) { return x.about(0); }

    private void see(long got) { seen.add(got); }
    private void see(boolean got) { seen.add(got ? 1L : 0L); }

    private int[] days() {
        return new int[] {0, Math.max(0, clock - 1), clock, Math.min(1999, clock + 1), Math.min(1999, clock + 10), 1999};
    }

    private void numbers() {
        for (int i = 0; i < 30; i++) see(x.about(i));
        for (int a = 0; a < 10; a++) for (int b = 0; b < 10; b++) see(x.way(a, b));
    }

    private void treaty() {
        for (int day : days()) {
            for (int what = 0; what < 6; what++) see(x.says(day, what));
            see(x.counted(0, day));
            see(x.counted(1, day));
            for (int thing = 0; thing < 4; thing++) for (int site = -1; site < 4; site++) see(x.counts(thing, site, day));
        }
    }

    private void things(int first) {
        for (int thing = first; thing < first + 20; thing++) for (int what = 0; what < 7; what++) see(x.thing(thing, what));
    }

    private void places(int first) {
        for (int thing = first; thing < first + 20; thing++) for (int day : days()) see(x.where(thing, day));
    }

    private void seals() {
        for (int seal = 0; seal < 40; seal++) {
            see(x.whole(seal, clock));
            see(x.whole(seal, Math.min(1999, clock + 10)));
        }
    }

    private void acts() {
        int last = x.about(11);
        for (int i = Math.max(0, last - 10); i <= last; i++) {
            for (int what = 0; what < 4; what++) see(x.act(i, what));
            see(x.judged(i, clock));
            see(x.judged(i, 1999));
        }
        for (int v = 1; v < 8; v++) see(x.fails(v, 1999, 0));
    }

    private void told() {
        for (int thing = 0; thing < 12; thing++) for (int day : days()) see(x.told(thing, day, clock));
        for (int site = 0; site < 10; site++) for (int sort = 0; sort < 4; sort++) see(x.toldAt(site, sort, clock, clock));
    }

    private void visits() {
        int last = x.about(8);
        for (int visit = Math.max(0, last - 10); visit <= last; visit++) for (int what = 0; what < 7; what++) see(x.saw(visit, what));
    }

    private void possible(int day) {
        for (int site = 0; site < 10; site++) {
            for (int sort = 0; sort < 4; sort++) {
                see(x.possible(site, sort, day, clock, false));
                see(x.possible(site, sort, day, clock, true));
            }
        }
    }

    private void doubts() {
        for (int i = 0; i < 41; i++) see(x.doubt(clock, clock, i));
        for (int site = 0; site < 10; site++) for (int sort = 0; sort < 4; sort++) see(x.doubted(site, sort, clock, 1999));
    }

    private void tricks() {
        for (int land = 0; land < 2; land++) {
            see(x.unseen(land, 3));
            for (int i = 0; i < 10; i++) for (int what = 0; what < 3; what++) see(x.trick(land, 3, i, what));
        }
    }

    private void shares() {
        for (int site = 0; site < 10; site++) {
            see(x.value(1 << site, 1, false));
            see(x.share(31, 1, site, true));
        }
    }

    /** What comes next: each kind of act, then the numbers of all. */
    private void theNext() {
        see(x.sort(1, 30, 40, 30, 40));
        see(x.rules(7, 7, 7));
        for (int thing = 0; thing < 4; thing++) see(x.step(thing));
        for (int site = 0; site < 4; site++) see(x.make(site, 0, 15, 15));
        for (int thing = 0; thing < 8; thing++) for (int site = 0; site < 4; site++) see(x.move(thing, site));
        for (int site = 0; site < 10; site++) {
            see(x.seal(site));
            see(x.visit(1, site));
            see(x.picture(site));
            see(x.ask(1, site));
            see(x.cloud(site, clock));
            see(x.watch(site, clock));
            see(x.tell(0, site, clock));
            see(x.answer(site));
        }
        see(x.site(0, 1, true, false));
        see(x.road(0, 1, 3));
        see(x.days(1));
        see(x.image());
        numbers();
    }

    private void tape() {
        see(x.fault(0));
        see(x.fault(1));
        see(x.text(clock));
        see(x.fault(0));
        see(x.fault(1));
        see(x.feed(0, 0, 0, 0, 0));
        treaty();
    }

    private void image() {
        see(x.back());
        see(x.fault(0));
        numbers();
        things(0);
    }
}
