import java.util.ArrayDeque;
import java.util.ArrayList;
import java.util.Arrays;
import java.util.HashMap;
import java.util.HashSet;
import java.util.List;
import java.util.Map;
import java.util.NoSuchElementException;
import java.util.Set;

/**
 * The document once more, written as plainly as can be and without regard to speed, with nothing kept that could be
 * worked out again: random runs of JuniorPews are compared with it.
 */
final class Model {
    static final int NONE = -1;

    /* ---- the language ---- */

    static final class Fault extends RuntimeException {
        private static final long serialVersionUID = 1;
        final int code;
        final int place;

        Fault(int code, int place) {
            super("fault " + code + " at " + place);
            this.code = code;
            this.place = place;
        }
    }

    interface Node {
        int eval(Map<String, Integer> values);
    }

    record Token(String text, int place) {
        boolean isWord() {
            return text.matches("[a-z]+");
        }

        boolean isNumber() {
            return text.matches("[0-9]+");
        }

        boolean is(String other) {
            return text.equals(other);
        }
    }

    static final class Text {
        final List<Integer> ages = new ArrayList<>();
        final Map<String, Node> rules = new HashMap<>();
        int seats = 12;
        private final List<Token> tokens = new ArrayList<>();
        private int next = 0;
        private Set<String> values = Set.of();

        Text(String text) {
            int i = 0;
            while (i < text.length()) {
                char c = text.charAt(i);
                int j = i + 1;
                String kind = c >= 'a' && c <= 'z' ? "[a-z]" : c >= '0' && c <= '9' ? "[0-9]" : null;
                while (kind != null && j < text.length() && text.substring(j, j + 1).matches(kind)) {
                    j++;
                }
                if (c != ' ' && c != '\n') {
                    tokens.add(new Token(text.substring(i, j), i));
                }
                i = j;
            }
            tokens.add(new Token("", text.length()));
            boolean seatsTold = false;
            while (!peek().is("")) {
                Token head = take();
                switch (head.text()) {
                    case "person" -> {
                        if (ages.size() == 12) {
                            throw new Fault(2, head.place());
                        }
                        ages.add(number(0, 29));
                    }
                    case "seats" -> {
                        if (seatsTold) {
                            throw new Fault(5, head.place());
                        }
                        seatsTold = true;
                        seats = number(1, 12);
                    }
                    case "arrives", "sulks", "minds" -> {
                        if (rules.containsKey(head.text())) {
                            throw new Fault(5, head.place());
                        }
                        values = head.is("minds") ? Set.of("age", "theirs", "pew", "seat", "moved")
                            : Set.of("age", "pew", "seat", "moved", "away", "sunday");
                        rules.put(head.text(), or(0));
                    }
                    default -> throw new Fault(1, head.place());
                }
                need(";");
            }
        }

        private Token peek() {
            return tokens.get(next);
        }

        private Token take() {
            return tokens.get(next++);
        }

        private void need(String sign) {
            if (!peek().is(sign)) {
                throw new Fault(1, peek().place());
            }
            next++;
        }

        private int number(int low, int high) {
            Token t = peek();
            if (!t.isNumber()) {
                throw new Fault(1, t.place());
            }
            if (t.text().length() > 4 || Integer.parseInt(t.text()) < low || Integer.parseInt(t.text()) > high) {
                throw new Fault(2, t.place());
            }
            next++;
            return Integer.parseInt(t.text());
        }

        private Node or(int others) {
            Token t = peek();
            if (others >= 6 && (t.isNumber() || t.isWord() || t.is("("))) {
                throw new Fault(2, t.place());
            }
            Node left = and(others);
            while (peek().is("or")) {
                next++;
                Node a = left;
                Node b = and(others);
                left = v -> a.eval(v) != 0 | b.eval(v) != 0 ? 1 : 0;
            }
            return left;
        }

        private Node and(int others) {
            Node left = not(others, 0);
            while (peek().is("and")) {
                next++;
                Node a = left;
                Node b = not(others, 0);
                left = v -> a.eval(v) != 0 & b.eval(v) != 0 ? 1 : 0;
            }
            return left;
        }

        private Node not(int others, int nots) {
            if (peek().is("not")) {
                if (nots == 6) {
                    throw new Fault(2, peek().place());
                }
                next++;
                Node a = not(others, nots + 1);
                return v -> a.eval(v) == 0 ? 1 : 0;
            }
            Node a = sum(others);
            if (peek().is("<")) {
                next++;
                Node b = sum(others);
                return v -> a.eval(v) < b.eval(v) ? 1 : 0;
            }
            if (peek().is("=")) {
                next++;
                Node b = sum(others);
                return v -> a.eval(v) == b.eval(v) ? 1 : 0;
            }
            return a;
        }

        private Node sum(int others) {
            Node left = product(others);
            while (peek().is("+") || peek().is("-")) {
                int sign = take().is("+") ? 1 : -1;
                Node a = left;
                Node b = product(others);
                left = v -> a.eval(v) + sign * b.eval(v);
            }
            return left;
        }

        private Node product(int others) {
            Node left = part(others);
            while (peek().is("*") || peek().is("/")) {
                boolean times = take().is("*");
                Node a = left;
                Node b = part(others);
                left = v -> {
                    int x = a.eval(v);
                    int y = b.eval(v);
                    return times ? x * y : y == 0 ? 0 : x / y;
                };
            }
            return left;
        }

        private Node part(int others) {
            Token t = peek();
            if (t.isNumber()) {
                if (t.text().length() > 4) {
                    throw new Fault(2, t.place());
                }
                next++;
                int n = Integer.parseInt(t.text());
                return v -> n;
            }
            if (t.isWord()) {
                if (!values.contains(t.text())) {
                    throw new Fault(3, t.place());
                }
                next++;
                return v -> v.get(t.text());
            }
            need("(");
            Node inner = or(others + 1);
            need(")");
            return inner;
        }
    }

    /* ---- what is so on one day ---- */

    final class Day {
        int sunday = 0;
        List<List<Integer>> pews = new ArrayList<>();
        int[] age;
        int[] moved;
        int[] total;
        int[] away;
        int[] barred;
        /** Who was put out by whom, since this copy was made. */
        final List<int[]> putOut = new ArrayList<>();

        Day(int people) {
            age = new int[people];
            moved = new int[people];
            total = new int[people];
            away = new int[people];
            barred = new int[people];
        }

        Day copy() {
            Day d = new Day(age.length);
            d.sunday = sunday;
            for (List<Integer> p : pews) {
                d.pews.add(new ArrayList<>(p));
            }
            d.age = age.clone();
            d.moved = moved.clone();
            d.total = total.clone();
            d.away = away.clone();
            d.barred = barred.clone();
            return d;
        }

        int pew(int person) {
            for (int i = 0; i < pews.size(); i++) {
                if (pews.get(i).contains(person)) {
                    return i;
                }
            }
            return NONE;
        }

        int seat(int person) {
            return pew(person) == NONE ? NONE : pews.get(pew(person)).indexOf(person);
        }

        Map<String, Integer> values(int person) {
            Map<String, Integer> v = new HashMap<>();
            v.put("age", age[person]);
            v.put("pew", pew(person) == NONE ? 12 : pew(person));
            v.put("seat", seat(person) == NONE ? 12 : seat(person));
            v.put("moved", moved[person]);
            v.put("away", away[person]);
            v.put("sunday", sunday);
            return v;
        }

        boolean minds(int sitter, int comer) {
            Node rule = text.rules.get("minds");
            if (rule == null) {
                return age[sitter] > age[comer];
            }
            Map<String, Integer> v = values(sitter);
            v.put("theirs", age[comer]);
            return rule.eval(v) > 0;
        }

        /** Answers the pew in which the last one sits down. */
        int sit(int comer, int pew) {
            if (pew == pews.size()) {
                pews.add(new ArrayList<>(List.of(comer)));
                return pew;
            }
            List<Integer> sitters = pews.get(pew);
            for (int s = 0; s < sitters.size(); s++) {
                int sitter = sitters.get(s);
                if (minds(sitter, comer)) {
                    sitters.set(s, comer);
                    moved[sitter]++;
                    total[sitter]++;
                    putOut.add(new int[] {sitter, comer});
                    return sit(sitter, pew + 1);
                }
            }
            if (sitters.size() < text.seats) {
                sitters.add(comer);
                return pew;
            }
            return sit(comer, pew + 1);
        }

        List<Integer> order(boolean rain) {
            List<Integer> all = new ArrayList<>();
            int[] when = new int[age.length];
            for (int p = 0; p < age.length; p++) {
                Node sulks = text.rules.get("sulks");
                Node arrives = text.rules.get("arrives");
                when[p] = arrives == null ? p : arrives.eval(values(p));
                boolean stays = sulks != null && sulks.eval(values(p)) > 0;
                if (!stays && barred[p] == 0 && !(rain && age[p] >= 15)) {
                    all.add(p);
                }
            }
            all.sort((a, b) -> when[a] != when[b] ? Integer.compare(when[a], when[b]) : Integer.compare(a, b));
            return all;
        }

        Day service(List<Integer> order) {
            Day d = copy();
            d.pews.clear();
            Arrays.fill(d.moved, 0);
            for (int p : order) {
                d.sit(p, 0);
            }
            for (int p = 0; p < age.length; p++) {
                d.away[p] = order.contains(p) ? 0 : d.away[p] + 1;
                d.barred[p] = Math.max(0, d.barred[p] - 1);
            }
            d.sunday++;
            return d;
        }

        Day next() {
            return service(order(false));
        }

        Day behind(int sundays) {
            Day d = this;
            for (int i = 0; i < sundays; i++) {
                d = d.next();
            }
            return d;
        }

        int sitterBits() {
            int bits = 0;
            for (List<Integer> p : pews) {
                bits |= bits(p);
            }
            return bits;
        }

        boolean beside(int a, int b) {
            return pew(a) != NONE && pew(a) == pew(b) && Math.abs(seat(a) - seat(b)) == 1;
        }

        Day withAge(int person, int years) {
            Day d = copy();
            d.age[person] = years;
            return d;
        }

        Day without(int person) {
            List<Integer> order = order(false);
            order.remove(Integer.valueOf(person));
            return service(order);
        }
    }

    static int bits(List<Integer> people) {
        int bits = 0;
        for (int p : people) {
            bits |= 1 << p;
        }
        return bits;
    }

    static int sum(int[] row) {
        return Arrays.stream(row).sum();
    }

    /* ---- the state of an object ---- */

    private final StringBuilder tape = new StringBuilder();
    private Text text = new Text("");
    private Day now = new Day(0);
    private ArrayDeque<Day> acts = new ArrayDeque<>();
    private List<int[]> seen = new ArrayList<>();
    private Day imageDay = null;
    private ArrayDeque<Day> imageActs = null;
    private List<int[]> imageSeen = null;
    private final int[] status = new int[3];
    private int faultPlace = NONE;

    int feed(int... numbers) {
        if (tape.length() + 20 > 700) {
            return NONE;
        }
        for (int n : numbers) {
            tape.append((char) (n >>> 24)).append((char) (n >> 16 & 255)).append((char) (n >> 8 & 255)).append((char) (n & 255));
        }
        return tape.length();
    }

    int chapel(int n) {
        illegal(n < 0 || n > tape.length());
        String told = tape.substring(0, n);
        tape.setLength(0);
        try {
            text = new Text(told);
        } catch (Fault f) {
            status[0]++;
            faultPlace = f.place;
            return f.code;
        }
        faultPlace = NONE;
        now = new Day(text.ages.size());
        for (int p = 0; p < now.age.length; p++) {
            now.age[p] = text.ages.get(p);
        }
        acts.clear();
        seen.clear();
        imageDay = null;
        return 0;
    }

    int fault() {
        return faultPlace;
    }

    private int people() {
        return now.age.length;
    }

    private void who(int person) {
        none(person < 0 || person >= people());
    }

    private static void none(boolean wrong) {
        if (wrong) {
            throw new NoSuchElementException();
        }
    }

    private static void illegal(boolean wrong) {
        if (wrong) {
            throw new IllegalArgumentException();
        }
    }

    private static void illegal(int n, int low, int high) {
        illegal(n < low || n > high);
    }

    int count(int what) {
        none(what < 0 || what > 14);
        int inOrder = 0;
        for (int i = 0; i < now.pews.size(); i++) {
            List<Integer> ages = new ArrayList<>();
            now.pews.get(i).forEach(p -> ages.add(now.age[p]));
            List<Integer> sorted = new ArrayList<>(ages);
            sorted.sort(null);
            inOrder |= ages.equals(sorted) ? 1 << i : 0;
        }
        return new int[] {people(), text.seats, now.sunday, now.pews.size(), now.sitterBits(), bits(now.order(false)),
            sum(now.moved), sum(now.total), inOrder, acts.size(), seen.size(), tape.length(), status[0], status[1],
            status[2]}[what];
    }

    int person(int person, int what) {
        who(person);
        none(what < 0 || what > 8);
        return switch (what) {
            case 0 -> now.pew(person);
            case 1 -> now.seat(person);
            case 2 -> now.age[person];
            case 3 -> now.moved[person];
            case 4 -> now.total[person];
            case 5 -> now.away[person];
            case 6 -> now.barred[person];
            case 7 -> now.order(false).indexOf(person);
            default -> bestCouples()[person] == 12 ? NONE : bestCouples()[person];
        };
    }

    int pew(int pew, int what) {
        none(pew < 0 || pew >= now.pews.size() || what < 0 || what > 4);
        List<Integer> p = now.pews.get(pew);
        return switch (what) {
            case 0 -> p.size();
            case 1 -> bits(p);
            case 2 -> p.get(0);
            case 3 -> p.get(p.size() - 1);
            default -> p.stream().mapToInt(q -> now.age[q]).sum();
        };
    }

    private void act() {
        acts.addLast(now);
        if (acts.size() > 40) {
            acts.removeFirst();
        }
        now = now.copy();
    }

    private int refuse(int kind) {
        status[kind]++;
        return NONE;
    }

    int sundays(int many) {
        if (many < 1 || many > 20 || now.sunday + many > 9999) {
            return refuse(1);
        }
        act();
        now = now.behind(many);
        return now.sunday;
    }

    int come(int person) {
        who(person);
        if (now.pew(person) != NONE) {
            return refuse(1);
        }
        act();
        now.sit(person, 0);
        return now.putOut.size();
    }

    int leave(int person) {
        who(person);
        int pew = now.pew(person);
        if (pew == NONE) {
            return refuse(1);
        }
        act();
        now.pews.get(pew).remove(Integer.valueOf(person));
        now.pews.removeIf(List::isEmpty);
        return pew;
    }

    boolean swap(int a, int b) {
        who(a);
        who(b);
        if (a == b || now.pew(a) == NONE || now.pew(b) == NONE) {
            refuse(1);
            return false;
        }
        act();
        for (List<Integer> p : now.pews) {
            p.replaceAll(q -> q == a ? b : q == b ? a : q);
        }
        return true;
    }

    int lie(int person, int age) {
        who(person);
        int was = now.age[person];
        if (age < 0 || age > 29 || age == was) {
            return refuse(1);
        }
        act();
        now.age[person] = age;
        return was;
    }

    int bar(int person, int sundays) {
        who(person);
        int was = now.barred[person];
        if (sundays < 0 || sundays > 9 || sundays == was) {
            return refuse(1);
        }
        act();
        now.barred[person] = sundays;
        return was;
    }

    int undo() {
        if (acts.isEmpty()) {
            return NONE;
        }
        now = acts.removeLast();
        return acts.size();
    }

    int then(int person, int sundays, int what) {
        who(person);
        none(what < 0 || what > 3);
        illegal(sundays, 0, 100);
        Day d = now.behind(sundays);
        return new int[] {d.pew(person), d.seat(person), d.moved[person], d.total[person]}[what];
    }

    int who(int pew, int seat, int sundays) {
        illegal(pew, 0, 11);
        illegal(seat, 0, 11);
        illegal(sundays, 0, 100);
        List<List<Integer>> pews = now.behind(sundays).pews;
        return pew < pews.size() && seat < pews.get(pew).size() ? pews.get(pew).get(seat) : NONE;
    }

    int later(int sundays, int what) {
        none(what < 0 || what > 3);
        illegal(sundays, 0, 100);
        Day d = now.behind(sundays);
        List<Integer> last = d.pews.isEmpty() ? List.of(NONE) : d.pews.get(d.pews.size() - 1);
        return new int[] {d.pews.size(), d.sitterBits(), sum(d.moved), last.get(last.size() - 1)}[what];
    }

    int size(int pew, int sundays) {
        illegal(pew, 0, 11);
        illegal(sundays, 0, 100);
        List<List<Integer>> pews = now.behind(sundays).pews;
        return pew < pews.size() ? pews.get(pew).size() : 0;
    }

    private List<Day> days(int from, int to) {
        List<Day> days = new ArrayList<>();
        Day d = now.behind(from);
        for (int i = from; i <= to; i++) {
            days.add(d);
            d = d.next();
        }
        return days;
    }

    int front(int person, int sundays) {
        who(person);
        illegal(sundays, 1, 100);
        return (int) days(1, sundays).stream().filter(d -> d.pew(person) == 0).count();
    }

    int first(int person) {
        who(person);
        List<Day> days = days(0, 100);
        for (int i = 0; i <= 100; i++) {
            if (days.get(i).pew(person) == 0) {
                return i;
            }
        }
        return NONE;
    }

    int beside(int a, int b) {
        who(a);
        who(b);
        List<Day> days = days(0, 100);
        for (int i = 0; i <= 100; i++) {
            if (days.get(i).beside(a, b)) {
                return i;
            }
        }
        return NONE;
    }

    int together(int a, int b, int sundays) {
        who(a);
        who(b);
        illegal(sundays, 1, 100);
        return (int) days(1, sundays).stream().filter(d -> d.pew(a) != NONE && d.pew(a) == d.pew(b)).count();
    }

    int asNow() {
        List<Day> days = days(0, 200);
        for (int i = 1; i <= 200; i++) {
            if (days.get(i).pews.equals(now.pews)) {
                return i;
            }
        }
        return NONE;
    }

    int neighbours(int person, int sundays) {
        who(person);
        illegal(sundays, 0, 100);
        int bits = 0;
        for (Day d : days(0, sundays)) {
            for (int p = 0; p < people(); p++) {
                bits |= d.beside(person, p) ? 1 << p : 0;
            }
        }
        return bits;
    }

    int more(int person, int what) {
        who(person);
        none(what < 0 || what > 2);
        if (now.pew(person) != NONE) {
            return NONE;
        }
        Day d = now.copy();
        int pew = d.sit(person, 0);
        int bits = 0;
        for (int[] out : d.putOut) {
            bits |= 1 << out[0];
        }
        return new int[] {d.putOut.size(), bits, pew}[what];
    }

    int order(int i) {
        illegal(i, 0, 11);
        List<Integer> order = now.order(false);
        return i < order.size() ? order.get(i) : NONE;
    }

    /** All rows are tried. */
    int longest(int i) {
        List<Integer> order = now.order(false);
        List<Integer> best = new ArrayList<>();
        for (int choice = 0; choice < 1 << order.size(); choice++) {
            List<Integer> row = new ArrayList<>();
            boolean fine = true;
            for (int k = 0; k < order.size(); k++) {
                if ((choice >> k & 1) == 1) {
                    fine &= row.isEmpty() || now.age[row.get(row.size() - 1)] <= now.age[order.get(k)];
                    row.add(order.get(k));
                }
            }
            if (fine && (row.size() > best.size() || row.size() == best.size() && isAhead(row, best))) {
                best = row;
            }
        }
        if (i == NONE) {
            return best.size();
        }
        none(i < 0 || i >= best.size());
        return best.get(i);
    }

    private static boolean isAhead(List<Integer> row, List<Integer> other) {
        for (int i = 0; i < row.size(); i++) {
            if (!row.get(i).equals(other.get(i))) {
                return row.get(i) < other.get(i);
            }
        }
        return false;
    }

    int toCome(int person, int what) {
        who(person);
        none(what < 0 || what > 1);
        List<Integer> order = now.order(false);
        if (!order.contains(person)) {
            return NONE;
        }
        int best = NONE;
        int bestPew = 99;
        for (int place = 0; place < order.size(); place++) {
            List<Integer> other = new ArrayList<>(order);
            other.remove(Integer.valueOf(person));
            other.add(place, person);
            int pew = now.service(other).pew(person);
            if (pew < bestPew) {
                bestPew = pew;
                best = place;
            }
        }
        return what == 0 ? best : bestPew;
    }

    int whose(int person) {
        who(person);
        List<Integer> order = now.order(false);
        if (!order.contains(person)) {
            return NONE;
        }
        int best = NONE;
        int bestPew = now.next().pew(person);
        for (int p = 0; p < people(); p++) {
            if (p != person && order.contains(p) && now.without(p).pew(person) < bestPew) {
                bestPew = now.without(p).pew(person);
                best = p;
            }
        }
        return best;
    }

    /** All ways are tried: by person the other one, 12 for nobody. */
    private int[] bestCouples() {
        int[] row = new int[people()];
        Arrays.fill(row, NONE);
        return tryCouples(row, 0, null);
    }

    private int[] tryCouples(int[] row, int person, int[] best) {
        if (person == people()) {
            return best == null || isBetter(row, best) ? row.clone() : best;
        }
        if (row[person] != NONE) {
            return tryCouples(row, person + 1, best);
        }
        int[] found = best;
        for (int other = person + 1; other < people(); other++) {
            if (row[other] == NONE && now.beside(person, other)) {
                row[person] = other;
                row[other] = person;
                found = tryCouples(row, person + 1, found);
                row[other] = NONE;
            }
        }
        row[person] = 12;
        found = tryCouples(row, person + 1, found);
        row[person] = NONE;
        return found;
    }

    private boolean isBetter(int[] row, int[] best) {
        if (coupleCount(row) != coupleCount(best)) {
            return coupleCount(row) > coupleCount(best);
        }
        if (difference(row) != difference(best)) {
            return difference(row) < difference(best);
        }
        return Arrays.compare(row, best) < 0;
    }

    private static int coupleCount(int[] row) {
        return (int) Arrays.stream(row).filter(p -> p != 12).count() / 2;
    }

    private int difference(int[] row) {
        int sum = 0;
        for (int p = 0; p < row.length; p++) {
            sum += row[p] == 12 ? 0 : Math.abs(now.age[p] - now.age[row[p]]);
        }
        return sum / 2;
    }

    int couples(int what) {
        none(what < 0 || what > 1);
        int[] row = bestCouples();
        return what == 0 ? coupleCount(row) : difference(row);
    }

    int see(int person, int sundays, int pew) {
        who(person);
        if (seen.size() == 8 || sundays < 0 || sundays > 20 || pew < 0 || pew > 11) {
            return refuse(2);
        }
        seen.add(new int[] {person, sundays, pew});
        return seen.size();
    }

    void forget() {
        seen.clear();
    }

    private boolean isSo(Day from) {
        for (int[] s : seen) {
            if (from.behind(s[1]).pew(s[0]) != s[2]) {
                return false;
            }
        }
        return true;
    }

    private List<int[]> guesses() {
        List<int[]> all = new ArrayList<>();
        for (int p = 0; p < people(); p++) {
            for (int age = 0; age < 30; age++) {
                if (age != now.age[p] && isSo(now.withAge(p, age))) {
                    all.add(new int[] {p, age});
                }
            }
        }
        return all;
    }

    int old(int what) {
        none(what < 0 || what > 2);
        if (what == 2) {
            return isSo(now) ? 1 : 0;
        }
        List<int[]> all = guesses();
        return what == 0 ? all.size() : all.isEmpty() ? NONE : 100 * all.get(0)[0] + all.get(0)[1];
    }

    int look(int what) {
        none(what < 0 || what > 1);
        List<Day> days = new ArrayList<>();
        for (int[] g : guesses()) {
            days.add(now.withAge(g[0], g[1]).behind(4));
        }
        int best = NONE;
        int most = 0;
        for (int p = 0; p < people(); p++) {
            Set<Integer> pews = new HashSet<>();
            for (Day d : days) {
                pews.add(d.pew(p));
            }
            if (pews.size() > most) {
                most = pews.size();
                best = p;
            }
        }
        return what == 0 ? best : most;
    }

    int rain(int person, int sundays, int tenths) {
        who(person);
        illegal(sundays, 1, 5);
        illegal(tenths, 0, 10);
        return likely(now, person, sundays, tenths);
    }

    private int likely(Day d, int person, int sundays, int tenths) {
        if (sundays == 0) {
            return d.pew(person) == 0 ? 1 : 0;
        }
        return tenths * likely(d.service(d.order(true)), person, sundays - 1, tenths)
            + (10 - tenths) * likely(d.next(), person, sundays - 1, tenths);
    }

    private int[] play(int a, int b, int early, int otherEarly) {
        List<Integer> order = now.order(false);
        List<Integer> ahead = new ArrayList<>();
        for (int p = 0; p < people(); p++) {
            if (order.contains(p) && (p == a && early == 1 || p == b && otherEarly == 1)) {
                ahead.add(p);
            }
        }
        order.removeAll(ahead);
        ahead.addAll(order);
        Day d = now.service(ahead);
        return new int[] {(d.pew(a) == NONE ? 0 : 12 - d.pew(a)) - d.moved[a] - early,
            (d.pew(b) == NONE ? 0 : 12 - d.pew(b)) - d.moved[b] - otherEarly};
    }

    int game(int a, int b, int what) {
        who(a);
        who(b);
        none(what < 0 || what > 1);
        illegal(a == b);
        int many = 0;
        int first = NONE;
        for (int x = 0; x < 2; x++) {
            for (int y = 0; y < 2; y++) {
                if (play(a, b, 1 - x, y)[0] <= play(a, b, x, y)[0] && play(a, b, x, 1 - y)[1] <= play(a, b, x, y)[1]) {
                    first = many == 0 ? 10 * x + y : first;
                    many++;
                }
            }
        }
        return what == 0 ? many : first;
    }

    private long seed;

    private int draw(int n) {
        seed = (seed * 1103515245L + 12345L) & 0xffffffffL;
        return (int) ((seed >> 16 & 0x7fff) % n);
    }

    int years(int start, int n, int what) {
        none(what < 0 || what > 2);
        illegal(n, 0, 100);
        seed = start & 0xffffffffL;
        Day d = now.copy();
        int times = 0;
        for (int i = 0; i < n; i++) {
            int act = draw(5);
            if (act == 0 && people() > 0) {
                d.barred[draw(people())] = 1;
            } else if (act == 1 && people() > 0) {
                int p = draw(people());
                d.age[p] = draw(30);
            }
            d = d.next();
            times += sum(d.moved);
        }
        return new int[] {times, d.pews.size(), d.pews.isEmpty() ? 0 : bits(d.pews.get(0))}[what];
    }

    int ahead(int sundays, int what) {
        none(what < 0 || what > 3);
        illegal(sundays, what > 1 ? 1 : 0, 100);
        int[] outs = new int[people()];
        int[] comes = new int[people()];
        int unmoved = 0;
        int deepest = 0;
        for (Day d : days(1, sundays)) {
            for (int p = 0; p < people(); p++) {
                outs[p] += d.moved[p];
                comes[p] += d.away[p] == 0 ? 1 : 0;
            }
            unmoved += sum(d.moved) == 0 ? 1 : 0;
            deepest = Math.max(deepest, d.pews.size());
        }
        return new int[] {mostOf(outs), mostOf(comes), unmoved, deepest}[what];
    }

    private static int mostOf(int[] times) {
        int best = NONE;
        for (int p = 0; p < times.length; p++) {
            if (times[p] > (best == NONE ? 0 : times[best])) {
                best = p;
            }
        }
        return best;
    }

    int putBy(int person, int other, int sundays) {
        who(person);
        who(other);
        illegal(sundays, 0, 100);
        int times = 0;
        for (Day d : days(1, sundays)) {
            for (int[] out : d.putOut) {
                times += out[0] == person && out[1] == other ? 1 : 0;
            }
        }
        return times;
    }

    int forward(int person, int age, int sundays) {
        who(person);
        illegal(age, 0, 29);
        illegal(sundays, 0, 100);
        int pew = now.behind(sundays).pew(person);
        int other = now.withAge(person, age).behind(sundays).pew(person);
        return (pew == NONE ? 12 : pew) - (other == NONE ? 12 : other);
    }

    int spread(int person, int sundays) {
        who(person);
        illegal(sundays, 1, 100);
        int bits = 0;
        for (Day d : days(1, sundays)) {
            bits |= d.pew(person) == NONE ? 0 : 1 << d.pew(person);
        }
        return bits;
    }

    int toLie(int person, int sundays, int what) {
        who(person);
        none(what < 0 || what > 1);
        illegal(sundays, 1, 100);
        int best = NONE;
        int most = -1;
        for (int age = 0; age < 30; age++) {
            Day d = now.withAge(person, age);
            int times = 0;
            for (int i = 0; i < sundays; i++) {
                d = d.next();
                times += d.pew(person) == 0 ? 1 : 0;
            }
            if (times > most) {
                most = times;
                best = age;
            }
        }
        return what == 0 ? best : most;
    }

    int toBar() {
        int best = NONE;
        int fewest = sum(now.next().moved);
        for (int p = 0; p < people(); p++) {
            if (now.order(false).contains(p) && sum(now.without(p).moved) < fewest) {
                fewest = sum(now.without(p).moved);
                best = p;
            }
        }
        return best;
    }

    void image() {
        imageDay = now.copy();
        imageActs = new ArrayDeque<>(acts);
        imageSeen = new ArrayList<>(seen);
    }

    boolean restore() {
        if (imageDay == null) {
            return false;
        }
        now = imageDay.copy();
        acts = new ArrayDeque<>(imageActs);
        seen = new ArrayList<>(imageSeen);
        return true;
    }
}
