import java.util.NoSuchElementException;
import java.util.Random;

/** Runs of random calls, the same ones each time, on an object and on the plain model of the document. */
public final class RandomRunsTest {
    /** What each call takes: p a person, w a what, s Sundays, a an age, q a pew or a seat, f few, i a place, n any. */
    private static final String[] TAKES = {"", "", "w", "pw", "qw", "f", "p", "p", "pp", "pa", "pf", "", "psw", "qqs", "sw",
        "qs", "ps", "p", "pp", "pps", "", "ps", "pw", "q", "i", "pw", "p", "w", "pfq", "", "w", "w", "pff", "ppw", "nsw", "sw",
        "pps", "pas", "ps", "psw", "", "", "", "nnn", "n"};

    /** Where the document's bounds lie, and what lies farthest off. */
    private static final int[] EDGES = {Integer.MIN_VALUE, Integer.MIN_VALUE + 1, -2, -1, 0, 1, 2, 3, 4, 5, 6, 8, 9, 10, 11, 12,
        13, 14, 15, 19, 20, 21, 28, 29, 30, 99, 100, 101, 200, 201, 700, 9999, Integer.MAX_VALUE - 1, Integer.MAX_VALUE};

    private static int wrong = 0;

    private final Random random;
    private final JuniorPews x = new JuniorPews();
    private final Model m = new Model();
    private int people = 0;

    private RandomRunsTest(long seed) {
        random = new Random(seed);
    }

    public static void main(String[] args) {
        int runs = args.length > 0 ? Integer.parseInt(args[0]) : 400;
        long from = args.length > 1 ? Long.parseLong(args[1]) : 0;
        for (int run = 0; run < runs && wrong < 20; run++) {
            new RandomRunsTest(from + run).go(from + run);
        }
        System.out.println(wrong == 0 ? "random runs are as due" : wrong + " random answers are not as due");
        if (wrong != 0) {
            System.exit(1);
        }
    }

    private void go(long seed) {
        StringBuilder log = new StringBuilder();
        for (int i = 0; i < 150; i++) {
            int call = i == 0 || oneIn(60) ? 0 : oneIn(12) ? 5 : 1 + random.nextInt(TAKES.length - 1);
            int[] a = new int[3];
            for (int k = 0; k < TAKES[call].length(); k++) {
                a[k] = argument(TAKES[call].charAt(k), call);
            }
            String told = call == 0 ? tellText() : null;
            String got = told != null ? told : outcome(true, call, a);
            String due = told != null ? told : outcome(false, call, a);
            people = m.count(0);
            log.append(call).append(java.util.Arrays.toString(a)).append(" -> ").append(due).append('\n');
            if (!got.equals(due)) {
                wrong++;
                System.out.println("seed " + seed + ":\n" + log + "answered " + got + ", due is " + due);
                return;
            }
        }
    }

    private boolean oneIn(int n) {
        return random.nextInt(n) == 0;
    }

    private int argument(char kind, int call) {
        if (oneIn(25)) {
            return random.nextInt(120) - 10;
        }
        if (oneIn(15)) {
            return EDGES[random.nextInt(EDGES.length)];
        }
        switch (kind) {
            case 'p': return random.nextInt(Math.max(1, people));
            case 'w': return call == 2 ? random.nextInt(16) : call == 3 ? random.nextInt(9) : random.nextInt(oneIn(3) ? 5 : 2);
            case 's': return oneIn(4) ? random.nextInt(101) : random.nextInt(8);
            case 'a': return random.nextInt(31);
            case 'q': return random.nextInt(oneIn(4) ? 13 : 3);
            case 'f': return oneIn(3) ? random.nextInt(11) : random.nextInt(4);
            case 'i': return random.nextInt(5) - 1;
            default: return random.nextInt();
        }
    }

    /* ---- texts ---- */

    private String tellText() {
        int left = m.count(11);
        if (left > 0 && !oneIn(4)) {
            compare("chapel " + left, x.chapel(left), m.chapel(left));
        }
        String text = text();
        if (oneIn(4)) {
            text = broken(text);
        }
        text = text.substring(0, Math.min(700, text.length()));
        for (int at = 0; at < text.length(); at += 20) {
            int[] n = Tape.numbers(text, at);
            compare("feed", x.feed(n[0], n[1], n[2], n[3], n[4]), m.feed(n));
        }
        int length = Math.max(0, Math.min(x.count(11), text.length()) - (oneIn(6) ? random.nextInt(9) : 0));
        int due = m.chapel(length);
        compare("chapel " + text, x.chapel(length), due);
        compare("fault " + text, x.fault(), m.fault());
        return "text " + due + " " + text.replace('\n', ' ');
    }

    private void compare(String what, int got, int due) {
        if (got != due) {
            wrong++;
            System.out.println(what + " answered " + got + ", due is " + due);
        }
    }

    private String text() {
        StringBuilder t = new StringBuilder();
        int many = oneIn(20) ? 13 : oneIn(3) ? random.nextInt(13) : 2 + random.nextInt(5);
        for (int i = 0; i < many; i++) {
            t.append("person ").append(oneIn(2) ? random.nextInt(30) : 10 + random.nextInt(10)).append(';');
            t.append(oneIn(5) ? " " : "");
        }
        if (!oneIn(4)) {
            t.append("seats ").append(oneIn(5) ? 1 + random.nextInt(12) : 1 + random.nextInt(3)).append(";\n");
        }
        if (oneIn(2)) {
            t.append("arrives ").append(expression(false, 0)).append(";");
        }
        if (oneIn(2)) {
            t.append(oneIn(2) ? "sulks " + expression(false, 0) + "<" + random.nextInt(4) + ";"
                : "sulks (sunday+" + random.nextInt(9) + "+age)/" + (1 + random.nextInt(5)) + "*3=sunday+age;");
        }
        if (oneIn(2)) {
            t.append(oneIn(2) ? "minds " + expression(true, 0) + ";"
                : "minds theirs<age-" + random.nextInt(5) + " or moved<" + random.nextInt(3) + ";");
        }
        return t.toString();
    }

    private String expression(boolean minds, int depth) {
        int kind = random.nextInt(depth > 3 ? 2 : 9);
        switch (kind) {
            case 0: return "" + (oneIn(30) ? random.nextInt(10000) : random.nextInt(12));
            case 1:
            case 2:
                return minds ? pick("age theirs pew seat moved") : pick("age pew seat moved away sunday");
            case 3: return "(" + expression(minds, depth + 1) + ")";
            case 4: return "(" + pick("not ", "not not ") + expression(minds, depth + 1) + ")";
            case 5: return "(" + expression(minds, depth + 1) + pick("<", "=") + expression(minds, depth + 1) + ")";
            case 6: return "(" + expression(minds, depth + 1) + pick(" or ", " and ") + expression(minds, depth + 1) + ")";
            default: return expression(minds, depth + 1) + pick("+", "-", "*", "/") + expression(minds, depth + 1);
        }
    }

    private String pick(String words) {
        return pick(words.split(" "));
    }

    private String pick(String... of) {
        return of[random.nextInt(of.length)];
    }

    private String broken(String text) {
        StringBuilder t = new StringBuilder(text);
        int many = 1 + random.nextInt(3);
        for (int i = 0; i < many; i++) {
            int at = random.nextInt(t.length() + 1);
            if (oneIn(3)) {
                at = t.indexOf(";", at) + 1;
            }
            switch (random.nextInt(4)) {
                case 0:
                    t.delete(at, Math.min(t.length(), at + 1 + random.nextInt(4)));
                    break;
                case 1:
                    t.insert(at, pick("(((((((1)))))))", "((((((age))))))", "not not not not not not not 1", "12345", "30",
                        "not", " seats 3;", "sulks 1;", "A", "\t", "\u00e9", "\0", "zz", ")", "(", "((((((", ";", "arrives"));
                    break;
                case 2:
                    t.insert(at, pick("+", "-", "*", "/", "<", "=", " or ", " and ", " not ", " theirs ", " sunday ", " 0029 "));
                    break;
                default:
                    int to = Math.min(t.length(), at + random.nextInt(12));
                    String piece = t.substring(at, to);
                    t.insert(random.nextInt(t.length() + 1), piece);
                    break;
            }
        }
        return t.toString();
    }

    /* ---- calls ---- */

    private String outcome(boolean real, int call, int[] a) {
        try {
            return "" + (real ? onObject(call, a[0], a[1], a[2]) : onModel(call, a[0], a[1], a[2]));
        } catch (NoSuchElementException e) {
            return "throws.NoSuchElementException";
        } catch (IllegalArgumentException e) {
            return e.getClass() == IllegalArgumentException.class ? "throws.IllegalArgumentException" : "" + e;
        } catch (RuntimeException e) {
            return "throws." + e;
        }
    }

    private long onObject(int call, int a, int b, int c) {
        switch (call) {
            case 1: return x.fault();
            case 2: return x.count(a);
            case 3: return x.person(a, b);
            case 4: return x.pew(a, b);
            case 5: return x.sundays(a);
            case 6: return x.come(a);
            case 7: return x.leave(a);
            case 8: return x.swap(a, b) ? 1 : 0;
            case 9: return x.lie(a, b);
            case 10: return x.bar(a, b);
            case 11: return x.undo();
            case 12: return x.then(a, b, c);
            case 13: return x.who(a, b, c);
            case 14: return x.later(a, b);
            case 15: return x.size(a, b);
            case 16: return x.front(a, b);
            case 17: return x.first(a);
            case 18: return x.beside(a, b);
            case 19: return x.together(a, b, c);
            case 20: return x.asNow();
            case 21: return x.neighbours(a, b);
            case 22: return x.more(a, b);
            case 23: return x.order(a);
            case 24: return x.longest(a);
            case 25: return x.toCome(a, b);
            case 26: return x.whose(a);
            case 27: return x.couples(a);
            case 28: return x.see(a, b, c);
            case 29: x.forget(); return 0;
            case 30: return x.old(a);
            case 31: return x.look(a);
            case 32: return x.rain(a, b, c);
            case 33: return x.game(a, b, c);
            case 34: return x.years(a, b, c);
            case 35: return x.ahead(a, b);
            case 36: return x.putBy(a, b, c);
            case 37: return x.forward(a, b, c);
            case 38: return x.spread(a, b);
            case 39: return x.toLie(a, b, c);
            case 40: return x.toBar();
            case 41: x.image(); return 0;
            case 42: return x.restore() ? 1 : 0;
            case 43: return x.feed(a, b, c, a, b);
            default: return x.chapel(people < 2 || a > 700 ? a : -1 - Math.abs(a));
        }
    }

    private long onModel(int call, int a, int b, int c) {
        switch (call) {
            case 1: return m.fault();
            case 2: return m.count(a);
            case 3: return m.person(a, b);
            case 4: return m.pew(a, b);
            case 5: return m.sundays(a);
            case 6: return m.come(a);
            case 7: return m.leave(a);
            case 8: return m.swap(a, b) ? 1 : 0;
            case 9: return m.lie(a, b);
            case 10: return m.bar(a, b);
            case 11: return m.undo();
            case 12: return m.then(a, b, c);
            case 13: return m.who(a, b, c);
            case 14: return m.later(a, b);
            case 15: return m.size(a, b);
            case 16: return m.front(a, b);
            case 17: return m.first(a);
            case 18: return m.beside(a, b);
            case 19: return m.together(a, b, c);
            case 20: return m.asNow();
            case 21: return m.neighbours(a, b);
            case 22: return m.more(a, b);
            case 23: return m.order(a);
            case 24: return m.longest(a);
            case 25: return m.toCome(a, b);
            case 26: return m.whose(a);
            case 27: return m.couples(a);
            case 28: return m.see(a, b, c);
            case 29: m.forget(); return 0;
            case 30: return m.old(a);
            case 31: return m.look(a);
            case 32: return m.rain(a, b, c);
            case 33: return m.game(a, b, c);
            case 34: return m.years(a, b, c);
            case 35: return m.ahead(a, b);
            case 36: return m.putBy(a, b, c);
            case 37: return m.forward(a, b, c);
            case 38: return m.spread(a, b);
            case 39: return m.toLie(a, b, c);
            case 40: return m.toBar();
            case 41: m.image(); return 0;
            case 42: return m.restore() ? 1 : 0;
            case 43: return m.feed(a, b, c, a, b);
            default: return m.chapel(people < 2 || a > 700 ? a : -1 - Math.abs(a));
        }
    }
}
