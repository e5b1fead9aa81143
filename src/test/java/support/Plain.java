import java.math.BigInteger;
import java.util.ArrayDeque;
import java.util.ArrayList;
import java.util.List;
import java.util.TreeSet;

/**
 * The document once more, in the plainest form, without any of the class's short cuts: whole
 * runs are gone through for each question, nothing is kept, all is looked at anew.
 */
final class Plain {
    static final int NONE = -1;

    /** What is told. */
    static final class Told {
        int length = 100;
        int speed = 10;
        int gap = 2;
        int start = 0;
        /** Each: P, WIDE, CYCLE, a, b, cars, serve. */
        List<int[]> crossings = new ArrayList<>();
        List<Integer> cars = new ArrayList<>();
        TreeSet<Integer> splits = new TreeSet<>();
        List<Integer> gathers = new ArrayList<>();
        List<int[]> broken = new ArrayList<>();

        Told copy() {
            Told t = new Told();
            t.length = length;
            t.speed = speed;
            t.gap = gap;
            t.start = start;
            t.crossings = new ArrayList<>(crossings);
            t.cars = new ArrayList<>(cars);
            t.splits = new TreeSet<>(splits);
            t.gathers = new ArrayList<>(gathers);
            t.broken = new ArrayList<>(broken);
            return t;
        }

        List<int[]> sections() {
            List<int[]> all = new ArrayList<>();
            int lead = 0;
            for (int car = 0; car < cars.size(); car++) {
                if (splits.contains(car) || car == cars.size() - 1) {
                    all.add(new int[] {lead, car});
                    lead = car + 1;
                }
            }
            return all;
        }

        int extent(int lead, int last) {
            int all = 0;
            for (int car = lead; car <= last; car++) {
                all += cars.get(car);
            }
            return all + gap * (last - lead);
        }

        int need(int lead, int last, int[] x) {
            int ticks = 0;
            while (ticks * speed < x[1] + extent(lead, last)) {
                ticks++;
            }
            return ticks;
        }

        static boolean isOpen(int[] x, int t) {
            return t % x[2] >= x[3] && t % x[2] < x[4];
        }

        boolean mayEnter(int[] section, int[] x, int t) {
            int need = need(section[0], section[1], x);
            for (int i = t; i < t + need; i++) {
                if (!isOpen(x, i)) {
                    return false;
                }
            }
            return isOpen(x, t);
        }

        boolean isBroken(int car, int t) {
            for (int[] b : broken) {
                if (b[0] == car && t >= b[1] && t < b[1] + b[2]) {
                    return true;
                }
            }
            return false;
        }
    }

    /** A run. */
    static final class Going {
        final Told told;
        final List<int[]> sections;
        int tick;
        int[] front;
        int[] why;
        List<int[]> events = new ArrayList<>();
        List<ArrayDeque<Integer>> queues = new ArrayList<>();
        /** Of each crossing: WAITS, SERVED, most, HELD, OVERRUN, longest. */
        int[][] sums;

        Going(Told told) {
            this.told = told;
            sections = told.sections();
            front = new int[told.cars.size()];
            why = new int[told.cars.size()];
            for (int car = 0; car < front.length; car++) {
                front[car] = car == 0 ? 0 : tail(car - 1) - told.gap;
                why[car] = NONE;
            }
            for (int i = 0; i < told.crossings.size(); i++) {
                queues.add(new ArrayDeque<>());
            }
            sums = new int[told.crossings.size()][6];
        }

        int tail(int car) {
            return front[car] - told.cars.get(car);
        }

        boolean isOut(int car) {
            return tail(car) >= told.length;
        }

        int outs() {
            int n = 0;
            for (int car = 0; car < front.length; car++) {
                n += isOut(car) ? 1 : 0;
            }
            return n;
        }

        int holder(int crossing) {
            int[] x = told.crossings.get(crossing);
            for (int s = 0; s < sections.size(); s++) {
                if (front[sections.get(s)[0]] > x[0] && tail(sections.get(s)[1]) < x[0] + x[1]) {
                    return s;
                }
            }
            return NONE;
        }

        int waits() {
            int all = 0;
            for (int[] s : sums) {
                all += s[0];
            }
            return all;
        }

        void tick() {
            int t = tick;
            for (int i = 0; i < sums.length; i++) {
                int[] x = told.crossings.get(i);
                ArrayDeque<Integer> queue = queues.get(i);
                boolean held = holder(i) != NONE;
                if (x[5] != 0 && t % x[5] == 0) {
                    queue.addLast(t);
                    sums[i][2] = Math.max(sums[i][2], queue.size());
                }
                if (!held && t % x[6] == 0 && !queue.isEmpty()) {
                    sums[i][5] = Math.max(sums[i][5], t - queue.removeFirst());
                    sums[i][1]++;
                }
                sums[i][0] += queue.size();
                sums[i][3] += held ? 1 : 0;
                sums[i][4] += held && !Told.isOpen(x, t) ? 1 : 0;
            }
            boolean closed = true;
            for (int car = 1; car < front.length; car++) {
                closed &= front[car] == tail(car - 1) - told.gap;
            }
            for (int car = 0; car < front.length; car++) {
                if (isOut(car)) {
                    why[car] = 0;
                } else if (t < told.start) {
                    why[car] = 1;
                } else if (told.isBroken(car, t)) {
                    why[car] = 2;
                } else {
                    move(car, closed);
                }
            }
            tick++;
        }

        private int sectionOf(int car) {
            for (int s = 0; s < sections.size(); s++) {
                if (car >= sections.get(s)[0] && car <= sections.get(s)[1]) {
                    return s;
                }
            }
            throw new IllegalStateException();
        }

        private void move(int car, boolean closed) {
            int s = sectionOf(car);
            int[] section = sections.get(s);
            int far = 1000000;
            int gather = far;
            int cross = far;
            int ahead = far;
            if (car == 0 && !closed) {
                for (int g : told.gathers) {
                    if (front[car] <= g) {
                        gather = Math.min(gather, g);
                    }
                }
            }
            if (section[0] == car) {
                for (int[] x : told.crossings) {
                    if (front[car] <= x[0] && x[0] < front[car] + told.speed && !told.mayEnter(section, x, tick)) {
                        cross = Math.min(cross, x[0]);
                    }
                }
            }
            if (car > 0 && !isOut(car - 1)) {
                ahead = tail(car - 1) - told.gap;
            }
            int oldFront = front[car];
            int oldTail = tail(car);
            int to = Math.min(Math.min(oldFront + told.speed, gather), Math.min(cross, ahead));
            if (to < oldFront) {
                throw new IllegalStateException("backwards");
            }
            why[car] = to == oldFront + told.speed ? 3 : to == gather ? 4 : to == cross ? 5 : 6;
            front[car] = to;
            for (int i = 0; i < told.crossings.size(); i++) {
                int[] x = told.crossings.get(i);
                if (section[0] == car && oldFront <= x[0] && to > x[0]) {
                    events.add(new int[] {0, tick, i, s});
                }
                if (section[1] == car && oldTail < x[0] + x[1] && tail(car) >= x[0] + x[1]) {
                    events.add(new int[] {1, tick, i, s});
                }
            }
            if (isOut(car)) {
                events.add(new int[] {2, tick, NONE, car});
            }
        }

        boolean allOut() {
            return outs() == front.length;
        }

        Going upTo(int n) {
            while (tick < n) {
                tick();
            }
            return this;
        }

        /** To THE END, or to 2000. */
        Going whole() {
            while (!allOut() && tick < 2000) {
                tick();
            }
            return this;
        }

        int end() {
            return allOut() ? tick : NONE;
        }
    }

    Told told = new Told();
    Going run = new Going(told);
    List<Integer> tape = new ArrayList<>();
    int fault = 0;
    int place = NONE;
    List<Told> before = new ArrayList<>();

    int feed(int a, int b, int c, int d, int e) {
        if (tape.size() + 20 > 600) {
            return -4;
        }
        for (int i : new int[] {a, b, c, d, e}) {
            tape.add(i >> 24 & 255);
            tape.add(i >> 16 & 255);
            tape.add(i >> 8 & 255);
            tape.add(i & 255);
        }
        return tape.size();
    }

    int tell(int n) {
        if (n < 0 || n > tape.size()) {
            return -3;
        }
        PlainText text = new PlainText(tape.subList(0, n));
        tape = new ArrayList<>();
        text.read();
        fault = text.fault;
        place = text.place;
        if (fault != 0) {
            return -30 - fault;
        }
        told = text.told;
        before.clear();
        run = new Going(told);
        return text.lines;
    }

    int fault(int what) {
        return what == 0 ? fault : what == 1 ? place : NONE;
    }

    private void act() {
        before.add(told);
        if (before.size() > 10) {
            before.remove(0);
        }
        told = told.copy();
    }

    private void anew() {
        run = new Going(told);
    }

    int split(int car) {
        if (car < 0 || car >= told.cars.size() - 1) {
            return -2;
        }
        act();
        if (!told.splits.remove(car)) {
            told.splits.add(car);
        }
        anew();
        return run.sections.size();
    }

    int start(int tick) {
        if (tick < 0 || tick > 999) {
            return -3;
        }
        int was = told.start;
        act();
        told.start = tick;
        anew();
        return was;
    }

    int broken(int car, int tick, int many) {
        if (car < 0 || car >= told.cars.size()) {
            return -2;
        }
        if (tick < 0 || tick > 1999 || many < 1 || many > 500) {
            return -3;
        }
        if (told.broken.size() == 6) {
            return -4;
        }
        act();
        told.broken.add(new int[] {car, tick, many});
        anew();
        return told.broken.size();
    }

    int mended() {
        if (told.broken.isEmpty()) {
            return -5;
        }
        act();
        told.broken.remove(told.broken.size() - 1);
        anew();
        return told.broken.size();
    }

    int undo() {
        if (before.isEmpty()) {
            return -5;
        }
        told = before.remove(before.size() - 1);
        anew();
        return before.size();
    }

    int go(int n) {
        if (n < 0 || n > 2000) {
            return -3;
        }
        run.upTo(Math.min(2000, run.tick + n));
        return run.tick;
    }

    int again() {
        int was = run.tick;
        anew();
        return was;
    }

    int car(int car, int what) {
        if (car < 0 || car >= told.cars.size() || what < 0 || what > 5) {
            return -2;
        }
        return new int[] {run.front[car] + 100000, run.tail(car) + 100000, told.cars.get(car), run.why[car],
            run.sectionOf(car), run.isOut(car) ? 1 : 0}[what];
    }

    int crossing(int crossing, int what) {
        if (crossing < 0 || crossing >= told.crossings.size() || what < 0 || what > 7) {
            return -2;
        }
        int[] s = run.sums[crossing];
        return new int[] {run.queues.get(crossing).size(), s[0], s[1], s[2], run.holder(crossing), s[3], s[4], s[5]}[what];
    }

    int section(int section, int what) {
        if (section < 0 || section >= run.sections.size() || what < 0 || what > 3) {
            return -2;
        }
        int[] s = run.sections.get(section);
        return new int[] {s[0], s[1], told.extent(s[0], s[1]), run.front[s[0]] - run.tail(s[1])}[what];
    }

    int event(int event, int what) {
        if (event < 0 || event >= Math.min(200, run.events.size()) || what < 0 || what > 3) {
            return -2;
        }
        return run.events.get(event)[what];
    }

    private boolean no(int section, int crossing) {
        return section < 0 || section >= run.sections.size() || crossing < 0 || crossing >= told.crossings.size();
    }

    int need(int section, int crossing) {
        if (no(section, crossing)) {
            return -2;
        }
        int[] s = run.sections.get(section);
        return told.need(s[0], s[1], told.crossings.get(crossing));
    }

    int pass(int section, int crossing, int tick) {
        if (no(section, crossing)) {
            return -2;
        }
        if (tick < 0 || tick > 1999) {
            return -3;
        }
        for (int t = tick; t < 2000; t++) {
            if (told.mayEnter(run.sections.get(section), told.crossings.get(crossing), t)) {
                return t;
            }
        }
        return NONE;
    }

    int open(int crossing, int tick) {
        if (crossing < 0 || crossing >= told.crossings.size()) {
            return -2;
        }
        if (tick < 0 || tick > 1999) {
            return -3;
        }
        return Told.isOpen(told.crossings.get(crossing), tick) ? 1 : 0;
    }

    int window(int crossing, int k, int what) {
        if (crossing < 0 || crossing >= told.crossings.size()) {
            return -2;
        }
        if (k != NONE && (what < 0 || what > 1)) {
            return -2;
        }
        if (k < NONE) {
            return -3;
        }
        int[] x = told.crossings.get(crossing);
        List<int[]> windows = new ArrayList<>();
        for (int t = 0; t < 2000; t++) {
            if (Told.isOpen(x, t)) {
                if (t == 0 || !Told.isOpen(x, t - 1)) {
                    windows.add(new int[] {t, 0});
                }
                windows.get(windows.size() - 1)[1]++;
            }
        }
        return k == NONE ? windows.size() : k >= windows.size() ? NONE : windows.get(k)[what];
    }

    int end() {
        return new Going(told).whole().end();
    }

    int where(int car, int n) {
        if (car < 0 || car >= told.cars.size()) {
            return -2;
        }
        if (n < 0 || n > 2000) {
            return -3;
        }
        return new Going(told).upTo(n).front[car] + 100000;
    }

    int waits(int n) {
        if (n < 0 || n > 2000) {
            return -3;
        }
        return new Going(told).upTo(n).waits();
    }

    int stretch(int what) {
        if (told.cars.isEmpty()) {
            return -5;
        }
        if (what < 0 || what > 1) {
            return -2;
        }
        int most = NONE;
        int at = 0;
        Going g = new Going(told);
        while (true) {
            int meters = g.front[0] - g.tail(g.front.length - 1);
            if (meters > most) {
                most = meters;
                at = g.tick;
            }
            if (g.allOut() || g.tick == 2000) {
                return what == 0 ? most : at;
            }
            g.tick();
        }
    }

    private boolean canPass(int lead, int last) {
        for (int[] x : told.crossings) {
            boolean any = x[3] == 0 && x[4] == x[2];
            if (!any && told.need(lead, last, x) > x[4] - x[3]) {
                return false;
            }
        }
        return true;
    }

    int fewest() {
        if (told.cars.isEmpty()) {
            return -5;
        }
        int sections = 0;
        int lead = 0;
        while (lead < told.cars.size()) {
            if (!canPass(lead, lead)) {
                return NONE;
            }
            int last = lead;
            while (last + 1 < told.cars.size() && canPass(lead, last + 1)) {
                last++;
            }
            sections++;
            lead = last + 1;
        }
        return sections - 1;
    }

    int best(int k, int what) {
        int cars = told.cars.size();
        if (cars == 0) {
            return -5;
        }
        if (k < 0 || k > 2) {
            return -3;
        }
        if (what < 0 || what > 2) {
            return -2;
        }
        List<int[]> sets = new ArrayList<>();
        sets.add(new int[] {});
        for (int a = 0; a < cars - 1 && k > 0; a++) {
            sets.add(new int[] {a});
        }
        for (int a = 0; a < cars - 1 && k > 1; a++) {
            for (int b = a + 1; b < cars - 1; b++) {
                sets.add(new int[] {a, b});
            }
        }
        int end = NONE;
        int[] best = {};
        for (int[] set : sets) {
            Told other = told.copy();
            other.splits.clear();
            for (int split : set) {
                other.splits.add(split);
            }
            int e = new Going(other).whole().end();
            if (e != NONE && (end == NONE || e < end)) {
                end = e;
                best = set;
            }
        }
        return what == 0 ? end : what <= best.length ? best[what - 1] : NONE;
    }

    int bestStart(int n, int what) {
        if (told.cars.isEmpty()) {
            return -5;
        }
        if (n < 0 || n > 60) {
            return -3;
        }
        if (what < 0 || what > 1) {
            return -2;
        }
        int best = NONE;
        int least = NONE;
        for (int s = 0; s <= n; s++) {
            Told other = told.copy();
            other.start = s;
            Going g = new Going(other).whole();
            if (g.end() != NONE && (best == NONE || g.waits() < least)) {
                best = s;
                least = g.waits();
            }
        }
        return what == 0 ? best : least;
    }

    int harm(int car, int tick, int many) {
        if (car < 0 || car >= told.cars.size()) {
            return -2;
        }
        if (tick < 0 || tick > 1999 || many < 1 || many > 500) {
            return -3;
        }
        Told other = told.copy();
        other.broken.add(new int[] {car, tick, many});
        int with = new Going(other).whole().end();
        int without = end();
        return with == NONE || without == NONE ? NONE : 100000 + with - without;
    }

    int smooth(int n) {
        if (told.cars.isEmpty()) {
            return -5;
        }
        if (n < 0 || n > 60) {
            return -3;
        }
        for (int s = 0; s <= n; s++) {
            Told other = told.copy();
            other.start = s;
            Going g = new Going(other);
            boolean ok = true;
            while (!g.allOut() && g.tick < 2000) {
                g.tick();
                for (int why : g.why) {
                    ok &= why != 5;
                }
            }
            if (ok && g.allOut()) {
                return s;
            }
        }
        return NONE;
    }

    int held(int car, int why) {
        if (car < 0 || car >= told.cars.size() || why < 0 || why > 6) {
            return -2;
        }
        Going g = new Going(told);
        int n = 0;
        while (!g.allOut() && g.tick < 2000) {
            g.tick();
            n += g.why[car] == why ? 1 : 0;
        }
        return n;
    }

    int slowest(int n) {
        if (told.cars.isEmpty()) {
            return -5;
        }
        if (n < 0 || n > 2000) {
            return -3;
        }
        for (int v = 1; v <= 50; v++) {
            Told other = told.copy();
            other.speed = v;
            int e = new Going(other).whole().end();
            if (e != NONE && e <= n) {
                return v;
            }
        }
        return NONE;
    }

    /** In which TICKS a CROSSING is HELD, by THE END. */
    private List<List<Integer>> heldTicks() {
        List<List<Integer>> all = new ArrayList<>();
        for (int i = 0; i < told.crossings.size(); i++) {
            all.add(new ArrayList<>());
        }
        Going g = new Going(told);
        while (!g.allOut() && g.tick < 2000) {
            for (int i = 0; i < all.size(); i++) {
                if (g.holder(i) != NONE) {
                    all.get(i).add(g.tick);
                }
            }
            g.tick();
        }
        return all;
    }

    int longest(int crossing) {
        if (crossing < 0 || crossing >= told.crossings.size()) {
            return -2;
        }
        int most = 0;
        int now = 0;
        int latest = -5;
        for (int t : heldTicks().get(crossing)) {
            now = t == latest + 1 ? now + 1 : 1;
            latest = t;
            most = Math.max(most, now);
        }
        return most;
    }

    int marshals(int speed) {
        if (speed < 1 || speed > 50) {
            return -3;
        }
        List<int[]> posts = new ArrayList<>();
        List<List<Integer>> held = heldTicks();
        for (int i = 0; i < held.size(); i++) {
            if (!held.get(i).isEmpty()) {
                List<Integer> h = held.get(i);
                posts.add(new int[] {told.crossings.get(i)[0], h.get(0), h.get(h.size() - 1)});
            }
        }
        posts.sort((a, b) -> a[1] - b[1]);
        return fewestFrom(posts, 0, new ArrayList<>(), speed);
    }

    /** All ways to share out the posts in the order of their first TICKS are gone through. */
    private static int fewestFrom(List<int[]> posts, int next, List<int[]> standing, int speed) {
        if (next == posts.size()) {
            return standing.size();
        }
        int[] post = posts.get(next);
        standing.add(post);
        int fewest = fewestFrom(posts, next + 1, standing, speed);
        standing.remove(standing.size() - 1);
        for (int i = 0; i < standing.size(); i++) {
            int[] old = standing.get(i);
            int way = 0;
            int at = old[0];
            while (at != post[0]) {
                at += Math.max(-speed, Math.min(speed, post[0] - at));
                way++;
            }
            if (old[2] + way < post[1]) {
                standing.set(i, post);
                fewest = Math.min(fewest, fewestFrom(posts, next + 1, standing, speed));
                standing.set(i, old);
            }
        }
        return fewest;
    }

    long price(long a, long b) {
        if (a < 0 || b < 0) {
            return -3;
        }
        Going g = new Going(told).whole();
        if (g.end() == NONE) {
            return NONE;
        }
        BigInteger all = BigInteger.valueOf(a).multiply(BigInteger.valueOf(g.end()))
            .add(BigInteger.valueOf(b).multiply(BigInteger.valueOf(g.waits())));
        return all.bitLength() > 63 ? -6 : all.longValue();
    }

    int count(int what) {
        int[] all = {told.length, told.speed, told.gap, told.start, told.crossings.size(), told.cars.size(),
            run.sections.size(), told.gathers.size(), told.broken.size(), run.tick, run.outs(),
            Math.min(200, run.events.size()), before.size(), tape.size()};
        return what < 0 || what >= all.length ? NONE : all[what];
    }
}
