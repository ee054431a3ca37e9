import java.util.ArrayList;
import java.util.List;
import java.util.Random;
import java.util.function.Consumer;
import java.util.function.ToLongFunction;

/**
 * What a question says that would be is what comes to be: each answer is compared with what the acts themselves bring on
 * another object of the same life. No second model of the chapel is needed for it.
 */
public final class ActedTest {
    private static final int FAR = 14;
    /** What the document allows for an object. */
    private static final int MOST_CALLS = 512;
    private static final Due due = new Due();

    /** Without 'moved' in MINDS, so that a Sunday can be acted by people who leave and come one by one. */
    private static final String[] TEXTS = {
        "person 20;person 5;person 12;person 8;person 12;",
        "person 9;person 16;person 3;person 15;person 9;seats 1;",
        "person 4;person 28;person 14;person 15;seats 2;arrives 29-age;",
        "person 7;person 7;person 2;person 20;seats 2;arrives pew*3+seat;sulks moved=1 and away<1;",
        "person 1;person 17;person 9;person 22;seats 2;arrives 0-seat-pew;minds theirs+3<age or seat=1 and pew=0;",
        "person 11;person 3;person 19;sulks (sunday+age)/3*3=sunday+age;minds age<theirs;",
        "person 6;person 16;person 26;person 2;seats 1;sulks away<2 and 15<age;minds pew=0 and theirs<10;",
        "person 15;person 14;person 15;person 13;seats 3;arrives moved*9+away-age;sulks pew=1 and moved;minds theirs<age;",
    };

    private final String text;
    private final Consumer<JuniorPews> past;
    private final int people;

    private ActedTest(String text, Consumer<JuniorPews> past) {
        this.text = text;
        this.past = past;
        people = make().count(0);
    }

    public static void main(String[] args) {
        for (int i = 0; i < TEXTS.length; i++) {
            for (int seed = 0; seed < 4; seed++) {
                long of = 10L * i + seed;
                int acts = 3 * seed;
                due.begin("text " + i + ", past " + seed);
                new ActedTest(TEXTS[i], x -> live(x, new Random(of), acts)).go();
            }
        }
        due.end("ActedTest");
    }

    private static void live(JuniorPews x, Random random, int acts) {
        int people = x.count(0);
        for (int i = 0; i < acts; i++) {
            int person = random.nextInt(people);
            switch (random.nextInt(7)) {
                case 0 -> x.come(person);
                case 1 -> x.leave(person);
                case 2 -> x.swap(person, random.nextInt(people));
                case 3 -> x.lie(person, random.nextInt(30));
                case 4 -> x.bar(person, random.nextInt(4));
                default -> x.sundays(1 + random.nextInt(3));
            }
        }
    }

    private JuniorPews make() {
        JuniorPews x = Tape.chapel(text);
        past.accept(x);
        return x;
    }

    /** An answer of another object of this life, so that none gets more calls than it is used for. */
    private long ask(ToLongFunction<JuniorPews> question) {
        return question.applyAsLong(make());
    }

    private void go() {
        later();
        more();
        toCome();
        whose();
        oldAndLook();
        rain();
        game();
        years();
        forwardAndToLie();
        toBar();
        putBy();
    }

    /* ---- promises 15 to 24, 38 and 41 ---- */

    /** One day as the calls of promise 5 and 6 tell it. */
    private record Day(int[] pew, int[] seat, int[] moved, int[] total, int pews, int sitters, int movedInAll) {
        boolean areBeside(int one, int other) {
            return pew[one] >= 0 && pew[one] == pew[other] && Math.abs(seat[one] - seat[other]) == 1;
        }

        int at(int row, int place) {
            for (int p = 0; p < pew.length; p++) {
                if (pew[p] == row && seat[p] == place) {
                    return p;
                }
            }
            return JuniorPews.NONE;
        }

        int sizeOf(int row) {
            int many = 0;
            for (int one : pew) {
                many += one == row ? 1 : 0;
            }
            return many;
        }
    }

    private Day dayOf(JuniorPews x) {
        int[][] told = new int[4][people];
        int[] whats = {0, 1, 3, 4};
        for (int i = 0; i < 4; i++) {
            for (int p = 0; p < people; p++) {
                told[i][p] = x.person(p, whats[i]);
            }
        }
        return new Day(told[0], told[1], told[2], told[3], x.count(3), x.count(4), x.count(6));
    }

    /** Sundays go by, one act each. */
    private List<Day> days() {
        JuniorPews x = make();
        List<Day> days = new ArrayList<>();
        days.add(dayOf(x));
        for (int k = 1; k <= FAR; k++) {
            x.sundays(1);
            days.add(dayOf(x));
        }
        due.is("no more calls than an object is used for", (FAR + 1) * (4 * people + 4) + 30 <= MOST_CALLS, true);
        return days;
    }

    private void later() {
        List<Day> days = days();
        JuniorPews x = make();
        for (int k = 0; k <= FAR; k++) {
            int sundays = k;
            Day day = days.get(k);
            due.are("later " + k, w -> x.later(sundays, w), day.pews, day.sitters, day.movedInAll,
                day.pews == 0 ? -1 : day.at(day.pews - 1, day.sizeOf(day.pews - 1) - 1));
            for (int p = 0; p < people; p++) {
                int person = p;
                due.are("then " + p + " " + k, w -> ask(y -> y.then(person, sundays, w)),
                    day.pew[p], day.seat[p], day.moved[p], day.total[p]);
            }
            for (int pew = 0; pew < 5; pew++) {
                int row = pew;
                due.is("size " + pew + " " + k, x.size(pew, k), day.sizeOf(pew));
                due.are("who " + pew + " " + k, s -> ask(y -> y.who(row, s, sundays)), day.at(pew, 0), day.at(pew, 1), day.at(pew, 2));
            }
        }
        for (int p = 0; p < people; p++) {
            ofOne(days, p);
            for (int q = 0; q < people; q++) {
                ofTwo(days, p, q);
            }
        }
        ofAll(days);
    }

    private void ofOne(List<Day> days, int person) {
        int first = JuniorPews.NONE;
        int front = 0;
        int spread = 0;
        int beside = 0;
        for (int k = 0; k <= FAR; k++) {
            int sundays = k;
            int pew = days.get(k).pew[person];
            first = first < 0 && pew == 0 ? k : first;
            for (int q = 0; q < people; q++) {
                beside |= days.get(k).areBeside(person, q) ? 1 << q : 0;
            }
            due.is("neighbours " + person + " " + k, ask(x -> x.neighbours(person, sundays)), beside);
            if (k > 0) {
                front += pew == 0 ? 1 : 0;
                spread |= pew >= 0 ? 1 << pew : 0;
                due.is("front " + person + " " + k, ask(x -> x.front(person, sundays)), front);
                due.is("spread " + person + " " + k, ask(x -> x.spread(person, sundays)), spread);
            }
        }
        isFirst("first " + person, ask(x -> x.first(person)), first);
    }

    /** What was not so on these Sundays is so behind them, or never. */
    private static void isFirst(String call, long got, int first) {
        due.is(call, first < 0 && (got < 0 || got > FAR) ? first : got, first);
    }

    private void ofTwo(List<Day> days, int person, int other) {
        int first = JuniorPews.NONE;
        int together = 0;
        for (int k = 0; k <= FAR; k++) {
            int sundays = k;
            Day day = days.get(k);
            first = first < 0 && day.areBeside(person, other) ? k : first;
            if (k > 0) {
                together += day.pew[person] >= 0 && day.pew[person] == day.pew[other] ? 1 : 0;
                due.is("together " + person + " " + other + " " + k, ask(x -> x.together(person, other, sundays)), together);
            }
        }
        isFirst("beside " + person + " " + other, ask(x -> x.beside(person, other)), first);
    }

    private void ofAll(List<Day> days) {
        int asNow = JuniorPews.NONE;
        int unmoved = 0;
        int deepest = 0;
        int[] outs = new int[people];
        int[] comes = new int[people];
        for (int k = 1; k <= FAR; k++) {
            Day day = days.get(k);
            boolean same = java.util.Arrays.equals(day.pew, days.get(0).pew) && java.util.Arrays.equals(day.seat, days.get(0).seat);
            asNow = asNow < 0 && same ? k : asNow;
            unmoved += day.movedInAll == 0 ? 1 : 0;
            deepest = Math.max(deepest, day.pews);
            for (int p = 0; p < people; p++) {
                outs[p] += day.moved[p];
                comes[p] += day.pew[p] >= 0 ? 1 : 0;
            }
            int sundays = k;
            due.are("ahead " + k, w -> ask(x -> x.ahead(sundays, w)), mostOf(outs), mostOf(comes), unmoved, deepest);
        }
        isFirst("asNow", ask(JuniorPews::asNow), asNow);
    }

    private static int mostOf(int[] times) {
        int best = JuniorPews.NONE;
        for (int p = 0; p < times.length; p++) {
            best = times[p] > (best < 0 ? 0 : times[best]) ? p : best;
        }
        return best;
    }

    /* ---- promises 25, 28, 29, 36 and 43: the next Sunday, or one more ---- */

    private void more() {
        for (int p = 0; p < people; p++) {
            int person = p;
            JuniorPews acted = make();
            Day before = dayOf(acted);
            int many = acted.come(p);
            Day after = dayOf(acted);
            int bits = 0;
            int last = many < 0 ? JuniorPews.NONE : after.pew[p];
            for (int q = 0; q < people && many >= 0; q++) {
                boolean out = after.total[q] > before.total[q];
                bits |= out ? 1 << q : 0;
                // who is put out goes farther back than who puts out
                last = out ? Math.max(last, after.pew[q]) : last;
            }
            due.are("more " + p, w -> ask(x -> x.more(person, w)), many, many < 0 ? -1 : bits, last);
        }
    }

    private List<Integer> order() {
        JuniorPews x = make();
        List<Integer> order = new ArrayList<>();
        for (int i = 0; i < people; i++) {
            if (x.order(i) >= 0) {
                order.add(x.order(i));
            }
        }
        return order;
    }

    /** A Sunday acted by hand: all leave, and come one by one. Its answer: by person the pew, and how often put out. */
    private int[][] byHand(List<Integer> order) {
        JuniorPews x = make();
        int[] before = dayOf(x).total;
        for (int p = 0; p < people; p++) {
            x.leave(p);
        }
        for (int p : order) {
            x.come(p);
        }
        Day day = dayOf(x);
        int[] outs = new int[people];
        for (int p = 0; p < people; p++) {
            outs[p] = day.total[p] - before[p];
        }
        return new int[][] {day.pew, outs};
    }

    private void toCome() {
        List<Integer> order = order();
        for (int p = 0; p < people; p++) {
            int person = p;
            int best = JuniorPews.NONE;
            int least = JuniorPews.NONE;
            for (int place = 0; place < order.size() && order.contains(p); place++) {
                List<Integer> other = new ArrayList<>(order);
                other.remove(Integer.valueOf(p));
                other.add(place, p);
                int pew = byHand(other)[0][p];
                if (best < 0 || pew < least) {
                    best = place;
                    least = pew;
                }
            }
            due.are("toCome " + p, w -> ask(x -> x.toCome(person, w)), best, least);
        }
    }

    private JuniorPews withoutOn(int person) {
        JuniorPews x = make();
        x.bar(person, 1);
        x.sundays(1);
        return x;
    }

    private void whose() {
        List<Integer> order = order();
        JuniorPews with = make();
        with.sundays(1);
        for (int p = 0; p < people; p++) {
            int person = p;
            int best = JuniorPews.NONE;
            int least = with.person(p, 0);
            for (int q = 0; q < people && least >= 0; q++) {
                if (q != p && order.contains(q) && withoutOn(q).person(p, 0) < least) {
                    best = q;
                    least = withoutOn(q).person(p, 0);
                }
            }
            due.is("whose " + p, ask(x -> x.whose(person)), best);
        }
    }

    private void toBar() {
        JuniorPews with = make();
        with.sundays(1);
        int best = JuniorPews.NONE;
        int fewest = with.count(6);
        for (int p : order().stream().sorted().toList()) {
            if (withoutOn(p).count(6) < fewest) {
                best = p;
                fewest = withoutOn(p).count(6);
            }
        }
        due.is("toBar", ask(JuniorPews::toBar), best);
    }

    private int[] gains(int person, int other, int early, int otherEarly) {
        List<Integer> order = order();
        List<Integer> acted = new ArrayList<>();
        for (int p = 0; p < people; p++) {
            if (order.contains(p) && (p == person && early == 1 || p == other && otherEarly == 1)) {
                acted.add(p);
            }
        }
        for (int p : order) {
            if (!acted.contains(p)) {
                acted.add(p);
            }
        }
        int[][] day = byHand(acted);
        return new int[] {(day[0][person] < 0 ? 0 : 12 - day[0][person]) - day[1][person] - early,
            (day[0][other] < 0 ? 0 : 12 - day[0][other]) - day[1][other] - otherEarly};
    }

    private void game() {
        for (int p = 0; p < people; p++) {
            for (int q = 0; q < people; q++) {
                int person = p;
                int other = q;
                if (p != q) {
                    int[][] gains = {gains(p, q, 0, 0), gains(p, q, 0, 1), gains(p, q, 1, 0), gains(p, q, 1, 1)};
                    int many = 0;
                    int first = JuniorPews.NONE;
                    for (int i = 0; i < 4; i++) {
                        if (gains[i ^ 2][0] <= gains[i][0] && gains[i ^ 1][1] <= gains[i][1]) {
                            first = many == 0 ? i / 2 * 10 + i % 2 : first;
                            many++;
                        }
                    }
                    due.are("game " + p + " " + q, w -> ask(x -> x.game(person, other, w)), many, first);
                }
            }
        }
    }

    /* ---- promises 31 to 35, 37, 39, 40 and 42 ---- */

    private JuniorPews lied(int person, int age, int sundays) {
        JuniorPews x = make();
        x.lie(person, age);
        for (int i = 0; i < sundays; i++) {
            x.sundays(1);
        }
        return x;
    }

    /** What is seen is what came to be by the age of one. */
    private void oldAndLook() {
        for (int age = 2; age < 30; age += 9) {
            for (int liar = 0; liar < people; liar += 2) {
                List<int[]> seen = new ArrayList<>();
                for (int sundays = 1; sundays <= 3; sundays += 2) {
                    int who = (liar + sundays) % people;
                    int pew = lied(liar, age, sundays).person(who, 0);
                    if (pew >= 0) {
                        seen.add(new int[] {who, sundays, pew});
                    }
                }
                guess(seen);
            }
        }
    }

    private static boolean isSo(List<int[]> seen, java.util.function.IntFunction<JuniorPews> behind) {
        for (int[] one : seen) {
            if (behind.apply(one[1]).person(one[0], 0) != one[2]) {
                return false;
            }
        }
        return true;
    }

    private void guess(List<int[]> seen) {
        int many = 0;
        int first = JuniorPews.NONE;
        int[] pews = new int[people];
        for (int p = 0; p < people; p++) {
            for (int age = 0; age < 30; age++) {
                int person = p;
                int other = age;
                if (make().person(p, 2) != age && isSo(seen, k -> lied(person, other, k))) {
                    first = many == 0 ? 100 * p + age : first;
                    many++;
                    JuniorPews then = lied(p, age, 4);
                    for (int q = 0; q < people; q++) {
                        pews[q] |= 1 << then.person(q, 0) + 1;
                    }
                }
            }
        }
        int best = JuniorPews.NONE;
        int most = 0;
        for (int q = 0; q < people; q++) {
            best = Integer.bitCount(pews[q]) > most ? q : best;
            most = Math.max(most, Integer.bitCount(pews[q]));
        }
        JuniorPews x = make();
        for (int[] one : seen) {
            x.see(one[0], one[1], one[2]);
        }
        due.are("old", x::old, many, first, isSo(seen, k -> lied(0, -1, k)) ? 1 : 0);
        due.are("look", x::look, best, most);
    }

    /** Rain is acted by barring those of 15 or more for one Sunday. */
    private void rain() {
        for (int p = 0; p < people; p++) {
            int person = p;
            for (int sundays = 1; sundays <= 3; sundays++) {
                int behind = sundays;
                int likely = 0;
                for (int wet = 0; wet < 1 << sundays; wet++) {
                    JuniorPews x = make();
                    int weight = 1;
                    for (int k = 0; k < sundays; k++) {
                        boolean rains = (wet >> k & 1) == 1;
                        weight *= rains ? 3 : 7;
                        for (int q = 0; q < people && rains; q++) {
                            if (x.person(q, 2) >= 15 && x.person(q, 6) == 0) {
                                x.bar(q, 1);
                            }
                        }
                        x.sundays(1);
                    }
                    likely += x.person(p, 0) == 0 ? weight : 0;
                }
                due.is("rain " + p + " " + sundays, ask(x -> x.rain(person, behind, 3)), likely);
            }
        }
    }

    private int seed;

    private int draw(int n) {
        seed = seed * 1103515245 + 12345;
        return (seed >> 16 & 32767) % n;
    }

    private void years() {
        for (int start = -3; start <= 3; start++) {
            int from = start * 987_654_321;
            seed = from;
            JuniorPews x = make();
            int times = 0;
            for (int n = 0; n <= FAR; n++) {
                int sundays = n;
                due.are("years " + from + " " + n, w -> ask(y -> y.years(from, sundays, w)), times, x.count(3),
                    x.count(3) == 0 ? 0 : x.pew(0, 1));
                int act = draw(5);
                if (act == 0) {
                    x.bar(draw(people), 1);
                } else if (act == 1) {
                    int person = draw(people);
                    x.lie(person, draw(30));
                }
                x.sundays(1);
                times += x.count(6);
            }
        }
    }

    private void forwardAndToLie() {
        for (int p = 0; p < people; p++) {
            int person = p;
            int bestAge = JuniorPews.NONE;
            int most = JuniorPews.NONE;
            for (int age = 0; age < 30; age++) {
                int other = age;
                JuniorPews is = make();
                JuniorPews would = lied(p, age, 0);
                int front = 0;
                for (int k = 0; k <= FAR; k++) {
                    int sundays = k;
                    int less = (is.person(p, 0) < 0 ? 12 : is.person(p, 0)) - (would.person(p, 0) < 0 ? 12 : would.person(p, 0));
                    if (age % 7 == 0) {
                        due.is("forward " + p + " " + age + " " + k, ask(x -> x.forward(person, other, sundays)), less);
                    }
                    front += k > 0 && would.person(p, 0) == 0 ? 1 : 0;
                    is.sundays(1);
                    would.sundays(1);
                }
                bestAge = front > most ? age : bestAge;
                most = Math.max(most, front);
            }
            due.are("toLie " + p, w -> ask(x -> x.toLie(person, FAR, w)), bestAge, most);
        }
    }

    /** Whoever puts one out is one of the others: all of them together do so as often as one is put out. */
    private void putBy() {
        List<Day> days = days();
        for (int p = 0; p < people; p++) {
            int person = p;
            for (int k = 0; k <= FAR; k++) {
                int sundays = k;
                long times = 0;
                for (int q = 0; q < people; q++) {
                    int other = q;
                    times += ask(x -> x.putBy(person, other, sundays));
                }
                due.is("put out " + p + " " + k, times, days.get(k).total[p] - days.get(0).total[p]);
            }
            due.is("by oneself " + p, ask(x -> x.putBy(person, person, FAR)), 0);
        }
    }
}
