/** Promises 15 to 24 and 38 to 41: what only Sundays bring. */
public final class LaterTest {
    private static final String FIVE = "person 20;person 5;person 12;person 8;person 12;";
    /** 0 comes on even Sundays, 1 on odd ones, 2 always. */
    private static final String TURNS = "person 3;person 2;person 1;sulks (sunday+age)/2*2=sunday+age and 1<age;";
    private static final Due due = new Due();

    public static void main(String[] args) {
        promise15();
        promise16();
        promise17();
        promise18();
        promise19();
        promise20();
        promise21();
        promise22();
        promise23();
        promise24();
        promise38();
        promise39();
        promise40();
        promise41();
        afterActs();
        due.end("LaterTest");
    }

    private static void promise15() {
        JuniorPews x = Tape.chapel(FIVE);
        due.are("now", w -> x.then(0, 0, w), -1, -1, 0, 0);
        due.are("behind 1", w -> x.then(0, 1, w), 2, 0, 2, 2);
        due.are("behind 2", w -> x.then(0, 2, w), 2, 0, 2, 4);
        due.are("behind 100", w -> x.then(0, 100, w), 2, 0, 2, 200);
        due.are("4 behind 1", w -> x.then(4, 1, w), 0, 2, 0, 0);
        due.are("2 behind 3", w -> x.then(2, 3, w), 1, 0, 1, 3);
        due.is("nothing has changed", x.count(2), 0);
        x.sundays(1);
        due.are("now, behind a Sunday", w -> x.then(0, 0, w), 2, 0, 2, 2);
        due.are("behind one more", w -> x.then(0, 1, w), 2, 0, 2, 4);
        due.illegal("101", () -> x.then(0, 101, 0));
        due.illegal("-1", () -> x.then(0, -1, 0));
        due.noSuch("what 4", () -> x.then(0, 0, 4));
        due.noSuch("what 4 ahead", () -> x.then(0, 101, 4));
        due.noSuch("what -1", () -> x.then(0, 0, -1));
        due.noSuch("nobody ahead", () -> x.then(5, 101, 0));
        JuniorPews y = Tape.chapel(TURNS);
        due.is("0 on the first", y.then(0, 1, 0), 1);
        due.is("0 on the second", y.then(0, 2, 0), -1);
        due.is("0 on the second: seat", y.then(0, 2, 1), -1);
        due.is("0 on the second: put out", y.then(0, 2, 2), 0);
        due.is("0 on the second: in all", y.then(0, 2, 3), 1);
    }

    private static void promise16() {
        JuniorPews x = Tape.chapel(FIVE);
        due.is("now", x.who(0, 0, 0), -1);
        due.are("pew 0", s -> x.who(0, s, 1), 1, 3, 4, -1, -1);
        due.is("pew 1", x.who(1, 0, 100), 2);
        due.is("pew 2", x.who(2, 0, 1), 0);
        due.is("pew 2, seat 1", x.who(2, 1, 1), -1);
        due.is("pew 11, seat 11", x.who(11, 11, 1), -1);
        due.illegal("pew 12", () -> x.who(12, 0, 1));
        due.illegal("pew -1", () -> x.who(-1, 0, 1));
        due.illegal("seat 12", () -> x.who(0, 12, 1));
        due.illegal("seat -1", () -> x.who(0, -1, 1));
        due.illegal("101", () -> x.who(0, 0, 101));
        due.illegal("-1", () -> x.who(0, 0, -1));
    }

    private static void promise17() {
        JuniorPews x = Tape.chapel(FIVE);
        due.are("now", w -> x.later(0, w), 0, 0, 0, -1);
        due.are("behind 1", w -> x.later(1, w), 3, 31, 3, 0);
        due.are("behind 100", w -> x.later(100, w), 3, 31, 3, 0);
        JuniorPews y = Tape.chapel(TURNS);
        due.are("turns: first", w -> y.later(1, w), 2, 5, 1, 0);
        due.are("turns: second", w -> y.later(2, w), 2, 6, 1, 1);
        JuniorPews z = Tape.chapel("person 3;person 3;person 3;person 3;seats 2;");
        z.come(2);
        due.are("now, with one", w -> z.later(0, w), 1, 4, 0, 2);
        due.is("the last of the last pew", z.later(1, 3), 3);
        due.illegal("101", () -> x.later(101, 0));
        due.illegal("-1", () -> x.later(-1, 0));
        due.noSuch("what 4", () -> x.later(0, 4));
        due.noSuch("what -1 ahead", () -> x.later(101, -1));
    }

    private static void promise18() {
        JuniorPews x = Tape.chapel(FIVE);
        due.is("now", x.size(0, 0), 0);
        due.are("behind 1", p -> x.size(p, 1), 3, 1, 1, 0, 0, 0, 0, 0, 0, 0, 0, 0);
        due.illegal("pew 12", () -> x.size(12, 1));
        due.illegal("pew -1", () -> x.size(-1, 1));
        due.illegal("101", () -> x.size(0, 101));
        due.illegal("-1", () -> x.size(0, -1));
    }

    private static void promise19() {
        JuniorPews x = Tape.chapel(FIVE);
        due.is("always", x.front(1, 100), 100);
        due.is("never", x.front(0, 100), 0);
        JuniorPews y = Tape.chapel("person 3;sulks sunday/3*3=sunday;");
        due.is("two of three", y.front(0, 7), 4);
        y.come(0);
        due.is("now doesn't count", y.front(0, 1), 0);
        due.illegal("0", () -> x.front(0, 0));
        due.illegal("101", () -> x.front(0, 101));
        due.noSuch("nobody ahead", () -> x.front(5, 0));
    }

    private static void promise20() {
        JuniorPews x = Tape.chapel(FIVE);
        due.is("behind 1", x.first(1), 1);
        due.is("never", x.first(0), -1);
        x.come(0);
        due.is("now", x.first(0), 0);
        due.noSuch("nobody", () -> x.first(5));
        due.is("behind 100", Tape.chapel("person 3;sulks sunday<99;").first(0), 100);
        due.is("behind 101", Tape.chapel("person 3;sulks sunday<100;").first(0), -1);
    }

    private static void promise21() {
        JuniorPews x = Tape.chapel(FIVE);
        due.is("behind 1", x.beside(1, 3), 1);
        due.is("the other way round", x.beside(3, 1), 1);
        due.is("one between", x.beside(1, 4), -1);
        due.is("both are one", x.beside(1, 1), -1);
        x.sundays(1);
        due.is("now", x.beside(4, 3), 0);
        due.noSuch("nobody", () -> x.beside(5, 0));
        due.noSuch("the other one", () -> x.beside(0, 5));
        JuniorPews y = Tape.chapel("person 1;person 1;person 1;person 1;seats 2;sulks age=0;");
        due.is("the end of a pew and the next one's first", y.beside(1, 2), -1);
        due.is("behind 100", Tape.chapel("person 3;person 3;sulks sunday<99;").beside(0, 1), 100);
        due.is("behind 101", Tape.chapel("person 3;person 3;sulks sunday<100;").beside(0, 1), -1);
        JuniorPews z = Tape.chapel("person 1;".repeat(12));
        due.is("12 in a pew", z.beside(10, 11), 1);
        JuniorPews w = Tape.chapel("person 1;".repeat(12) + "seats 11;");
        due.is("seat 10 and the pew behind", w.beside(10, 11), -1);
    }

    private static void promise22() {
        JuniorPews x = Tape.chapel(FIVE);
        due.is("always", x.together(1, 4, 100), 100);
        due.is("never", x.together(0, 1, 100), 0);
        JuniorPews y = Tape.chapel("person 3;person 3;sulks sunday/3*3=sunday;");
        due.is("nowhere is no pew", y.together(0, 1, 7), 4);
        due.illegal("0", () -> x.together(0, 1, 0));
        due.illegal("101", () -> x.together(0, 1, 101));
        due.noSuch("nobody ahead", () -> x.together(5, 0, 0));
        due.noSuch("the other one ahead", () -> x.together(0, 5, 0));
    }

    private static void promise23() {
        due.is("without people", new JuniorPews().asNow(), 1);
        JuniorPews x = Tape.chapel(FIVE);
        due.is("never as at first", x.asNow(), -1);
        x.sundays(1);
        due.is("always", x.asNow(), 1);
        x.swap(0, 1);
        due.is("swapped", x.asNow(), -1);
        JuniorPews y = Tape.chapel(TURNS);
        y.sundays(1);
        due.is("every second", y.asNow(), 2);
        due.is("behind 200", Tape.chapel("person 3;sulks sunday=199;").asNow(), 200);
        due.is("behind 201", Tape.chapel("person 3;sulks sunday=200;").asNow(), -1);
    }

    private static void promise24() {
        JuniorPews x = Tape.chapel(FIVE);
        due.is("now", x.neighbours(3, 0), 0);
        due.is("behind 1", x.neighbours(3, 1), 18);
        due.is("at an end", x.neighbours(1, 1), 8);
        due.is("alone", x.neighbours(0, 100), 0);
        x.sundays(1);
        x.swap(4, 2);
        due.is("now and then", x.neighbours(3, 1), 22);
        due.is("now alone", x.neighbours(3, 0), 6);
        due.illegal("101", () -> x.neighbours(0, 101));
        due.illegal("-1", () -> x.neighbours(0, -1));
        due.noSuch("nobody ahead", () -> x.neighbours(5, -1));
    }

    private static void promise38() {
        JuniorPews x = Tape.chapel(FIVE);
        due.is("restless", x.ahead(3, 0), 0);
        due.is("restless in none", x.ahead(0, 0), -1);
        due.is("pious", x.ahead(3, 1), 0);
        due.is("pious in none", x.ahead(0, 1), -1);
        due.is("unmoved", x.ahead(3, 2), 0);
        due.is("deepest", x.ahead(100, 3), 3);
        x.sundays(1);
        due.is("what was doesn't count", x.ahead(0, 0), -1);
        x.lie(0, 0);
        x.lie(1, 0);
        x.lie(3, 12);
        due.is("unmoved now", x.ahead(100, 2), 100);
        due.is("nobody is put out", x.ahead(100, 0), -1);
        due.is("deepest without now", x.ahead(1, 3), 1);
        JuniorPews y = Tape.chapel("person 3;person 2;person 1;sulks sunday=0 and age<3 or sunday=1 and age=1;");
        due.is("more often", y.ahead(2, 1), 0);
        due.is("another one more often", Tape.chapel("person 3;person 2;person 1;sulks age=3 and sunday=2 or age=1;")
            .ahead(3, 1), 1);
        due.is("unmoved on the first", y.ahead(2, 2), 1);
        due.is("restless: of like ones the least", Tape.chapel("person 3;person 2;person 3;person 2;arrives 0-age;seats 1;")
            .ahead(1, 0), 0);
        due.is("deepest on any", y.ahead(3, 3), 3);
        due.is("nobody comes", Tape.chapel("person 3;sulks 1;").ahead(9, 1), -1);
        due.is("nobody comes: deepest", Tape.chapel("person 3;sulks 1;").ahead(9, 3), 0);
        due.illegal("restless 101", () -> x.ahead(101, 0));
        due.illegal("restless -1", () -> x.ahead(-1, 0));
        due.illegal("pious 101", () -> x.ahead(101, 1));
        due.illegal("pious -1", () -> x.ahead(-1, 1));
        due.illegal("unmoved 0", () -> x.ahead(0, 2));
        due.illegal("unmoved 101", () -> x.ahead(101, 2));
        due.illegal("deepest 0", () -> x.ahead(0, 3));
        due.illegal("deepest 101", () -> x.ahead(101, 3));
        due.noSuch("what 4", () -> x.ahead(1, 4));
        due.noSuch("what 4 ahead", () -> x.ahead(101, 4));
        due.noSuch("what -1", () -> x.ahead(1, -1));
    }

    private static void promise39() {
        JuniorPews x = Tape.chapel(FIVE);
        due.are("0 by all", p -> x.putBy(0, p, 1), 0, 1, 1, 0, 0);
        due.are("2 by all", p -> x.putBy(2, p, 3), 0, 0, 0, 3, 0);
        due.is("in none", x.putBy(0, 1, 0), 0);
        due.is("in 100", x.putBy(0, 1, 100), 100);
        due.is("the other way round", x.putBy(1, 0, 100), 0);
        due.illegal("101", () -> x.putBy(0, 1, 101));
        due.illegal("-1", () -> x.putBy(0, 1, -1));
        due.noSuch("nobody ahead", () -> x.putBy(5, 0, -1));
        due.noSuch("the other one ahead", () -> x.putBy(0, 5, -1));
        x.come(0);
        x.come(1);
        due.is("what was doesn't count", x.putBy(0, 1, 0), 0);
    }

    private static void promise40() {
        JuniorPews x = Tape.chapel(FIVE);
        due.is("younger", x.forward(0, 3, 1), 2);
        due.is("as it is", x.forward(0, 20, 1), 0);
        due.is("older", x.forward(1, 29, 1), -1);
        due.is("now", x.forward(1, 29, 0), 0);
        due.is("later", x.forward(0, 0, 100), 2);
        due.is("nothing has changed", x.person(0, 2), 20);
        JuniorPews y = Tape.chapel("person 3;person 1;sulks age=3 or age=5;");
        due.is("from nowhere to the front", y.forward(0, 1, 1), 12);
        due.is("from nowhere to nowhere", y.forward(0, 5, 1), 0);
        due.is("from the front to nowhere", y.forward(1, 5, 1), -12);
        due.illegal("age 30", () -> x.forward(0, 30, 1));
        due.illegal("age -1", () -> x.forward(0, -1, 1));
        due.illegal("101", () -> x.forward(0, 3, 101));
        due.illegal("-1", () -> x.forward(0, 3, -1));
        due.noSuch("nobody ahead", () -> x.forward(5, 30, -1));
    }

    private static void promise41() {
        JuniorPews x = Tape.chapel(FIVE);
        due.is("one pew", x.spread(0, 100), 4);
        x.come(0);
        due.is("now doesn't count", x.spread(0, 1), 4);
        JuniorPews y = Tape.chapel("person 3;person 2;person 1;sulks sunday=1 and 2<age or sunday=2 and age<3;");
        due.is("two pews and nowhere", y.spread(0, 3), 5);
        due.is("as far as asked", y.spread(0, 2), 4);
        due.is("nowhere", Tape.chapel("person 3;sulks 1;").spread(0, 5), 0);
        due.illegal("0", () -> x.spread(0, 0));
        due.illegal("101", () -> x.spread(0, 101));
        due.noSuch("nobody ahead", () -> x.spread(5, 0));
    }

    /** What is known of later days is void by every act. */
    private static void afterActs() {
        JuniorPews x = Tape.chapel("person 9;person 5;person 7;");
        due.is("at first", x.then(0, 3, 0), 1);
        x.lie(2, 3);
        due.is("a lie", x.then(0, 3, 0), 2);
        x.bar(2, 9);
        due.is("one is barred", x.then(0, 3, 0), 1);
        x.undo();
        due.is("undone", x.then(0, 3, 0), 2);
        x.image();
        x.bar(0, 9);
        due.is("barred", x.then(0, 3, 0), -1);
        x.restore();
        due.is("restored", x.then(0, 3, 0), 2);
        x.come(0);
        due.is("came late", x.then(0, 0, 0), 0);
        x.come(2);
        due.is("put out", x.then(0, 0, 0), 1);
        x.swap(0, 2);
        due.is("swapped", x.then(0, 0, 0), 0);
        x.leave(0);
        due.is("left", x.then(0, 0, 0), -1);
        x.sundays(1);
        due.is("a Sunday", x.then(0, 0, 0), 2);
        Tape.tell(x, "person 1;");
        due.is("a chapel", x.then(0, 0, 0), -1);
    }
}
