/** Promises 5 to 7 and 25 to 30: what is so now, and what would be on the next Sunday. */
public final class NowTest {
    /** By one Sunday: pew 0 has 1, 3, 4, pew 1 has 2, pew 2 has 0; 1 put out 0, 3 put out 2, who put out 0. */
    private static final String FIVE = "person 20;person 5;person 12;person 8;person 12;";
    private static final Due due = new Due();

    public static void main(String[] args) {
        promise5();
        promise5InOrder();
        promise6();
        promise7();
        promise25();
        promise26();
        promise27();
        promise28();
        promise29();
        promise30();
        promise30LikeOnes();
        due.end("NowTest");
    }

    private static void promise5() {
        JuniorPews x = Tape.chapel(FIVE);
        due.are("count", x::count, 5, 12, 0, 0, 0, 31, 0, 0, 0, 0, 0, 0, 0, 0, 0);
        x.sundays(1);
        due.are("count after a Sunday", x::count, 5, 12, 1, 3, 31, 31, 3, 3, 7, 1, 0, 0, 0, 0, 0);
        x.sundays(1);
        x.bar(3, 1);
        x.see(2, 1, 1);
        x.see(2, 1, 1);
        x.see(2, 1, -1);
        x.come(0);
        x.come(0);
        x.feed(0, 0, 0, 0, 0);
        x.chapel(3);
        x.feed(0, 0, 0, 0, 0);
        due.are("count later", x::count, 5, 12, 2, 3, 31, 23, 3, 6, 7, 3, 2, 20, 1, 2, 1);
        due.noSuch("count(15)", () -> x.count(15));
        due.noSuch("count(-1)", () -> x.count(-1));
        x.leave(1);
        x.leave(2);
        // 1 comes late and puts out 3, who puts out 0, who is in pew 1 now
        due.is("comes late", x.come(1), 2);
        due.is("put out since the last Sunday", x.count(6), 5);
        due.is("put out in all", x.count(7), 8);
        due.is("who sits", x.count(4), 27);
        x.sundays(1);
        due.is("put out anew", x.count(6), x.count(7) - 8);
    }

    private static void promise5InOrder() {
        JuniorPews x = Tape.chapel("person 5;person 6;person 7;person 9;seats 2;minds 0;");
        due.is("nobody sits", x.count(8), 0);
        x.sundays(1);
        due.is("in order", x.count(8), 3);
        x.lie(1, 5);
        due.is("like ones are in order", x.count(8), 3);
        x.lie(1, 4);
        due.is("not in order", x.count(8), 2);
        x.swap(2, 3);
        due.is("neither", x.count(8), 0);
        x.leave(2);
        due.is("one alone", x.count(8), 2);
    }

    private static void promise6() {
        JuniorPews x = Tape.chapel(FIVE);
        due.are("person 0 at first", w -> x.person(0, w), -1, -1, 20, 0, 0, 0, 0, 0, -1);
        x.sundays(2);
        due.are("person 0", w -> x.person(0, w), 2, 0, 20, 2, 4, 0, 0, 0, -1);
        due.are("person 3", w -> x.person(3, w), 0, 1, 8, 0, 0, 0, 0, 3, 1);
        due.are("person 1", w -> x.person(1, w), 0, 0, 5, 0, 0, 0, 0, 1, 3);
        due.are("person 4", w -> x.person(4, w), 0, 2, 12, 0, 0, 0, 0, 4, -1);
        x.bar(1, 3);
        x.sundays(2);
        due.are("one who is barred", w -> x.person(1, w), -1, -1, 5, 0, 0, 2, 1, -1, -1);
        due.is("behind one who is barred", x.person(2, 7), 1);
        due.noSuch("person(5, 0)", () -> x.person(5, 0));
        due.noSuch("person(-1, 0)", () -> x.person(-1, 0));
        due.noSuch("person(0, 9)", () -> x.person(0, 9));
        due.noSuch("person(0, -1)", () -> x.person(0, -1));
    }

    private static void promise7() {
        JuniorPews x = Tape.chapel(FIVE);
        due.noSuch("an empty chapel", () -> x.pew(0, 0));
        x.sundays(1);
        due.are("pew 0", w -> x.pew(0, w), 3, 26, 1, 4, 25);
        due.are("pew 1", w -> x.pew(1, w), 1, 4, 2, 2, 12);
        due.are("pew 2", w -> x.pew(2, w), 1, 1, 0, 0, 20);
        due.noSuch("pew(3, 0)", () -> x.pew(3, 0));
        due.noSuch("pew(12, 0)", () -> x.pew(12, 0));
        due.noSuch("pew(-1, 0)", () -> x.pew(-1, 0));
        due.noSuch("pew(0, 5)", () -> x.pew(0, 5));
        due.noSuch("pew(0, -1)", () -> x.pew(0, -1));
        JuniorPews y = Tape.chapel("person 1;person 0;".repeat(6) + "seats 1;");
        y.sundays(1);
        due.are("the last of 12 pews", w -> y.pew(11, w), 1, 1 << y.pew(11, 2), y.pew(11, 3), y.pew(11, 2), 1);
    }

    private static void promise25() {
        JuniorPews x = Tape.chapel("person 20;person 5;person 12;person 8;seats 2;");
        x.sundays(1);
        // pew 0: 1, 3; pew 1: 2; pew 2: 0
        x.leave(1);
        // pew 0: 3; pew 1: 2; pew 2: 0
        due.are("more of 1", w -> x.more(1, w), 3, 13, 3);
        due.are("one who sits", w -> x.more(3, w), -1, -1, -1);
        due.is("nothing has changed", x.person(1, 0), -1);
        due.is("nobody was put out", x.person(3, 3), 0);
        x.lie(1, 20);
        due.are("the older one", w -> x.more(1, w), 0, 0, 0);
        x.bar(1, 2);
        due.is("one who is barred", x.more(1, 2), 0);
        x.lie(1, 10);
        due.are("behind the last", w -> x.more(1, w), 0, 0, 0);
        due.noSuch("more(4, 0)", () -> x.more(4, 0));
        due.noSuch("more(1, 3)", () -> x.more(1, 3));
        due.noSuch("more(3, 3)", () -> x.more(3, 3));
        due.noSuch("more(1, -1)", () -> x.more(1, -1));
        JuniorPews y = Tape.chapel("person 1;person 2;seats 1;");
        due.are("alone", w -> y.more(1, w), 0, 0, 0);
        y.come(0);
        due.are("beyond a full pew", w -> y.more(1, w), 0, 0, 1);
    }

    private static void promise26() {
        JuniorPews x = Tape.chapel(FIVE + "arrives age;sulks sunday=0 and age=8;");
        due.are("order", x::order, 1, 2, 4, 0, -1, -1, -1, -1, -1, -1, -1, -1);
        x.bar(4, 1);
        due.are("order without one who is barred", x::order, 1, 2, 0, -1);
        due.illegal("order(12)", () -> x.order(12));
        due.illegal("order(-1)", () -> x.order(-1));
    }

    private static void promise27() {
        JuniorPews x = Tape.chapel(FIVE);
        due.is("how many", x.longest(-1), 3);
        due.are("the row", x::longest, 1, 2, 4);
        due.noSuch("longest(3)", () -> x.longest(3));
        due.noSuch("longest(-2)", () -> x.longest(-2));
        JuniorPews y = Tape.chapel("person 7;person 7;person 5;person 6;arrives 9-age;");
        // in order 0 (7), 1 (7), 3 (6), 2 (5): the row of like ones
        due.is("like ages", y.longest(-1), 2);
        due.are("like ages: the row", y::longest, 0, 1);
        JuniorPews z = Tape.chapel("person 9;person 3;person 4;person 8;arrives (age=4)+(age=9)*2+(age=3)*3+(age=8)*4;");
        // in order 2 (4), 0 (9), 1 (3), 3 (8): rows 2 0, 2 3, 1 3; the first by their numbers is 1 3
        due.is("like rows", z.longest(-1), 2);
        due.are("like rows: the first", z::longest, 1, 3);
        JuniorPews n = Tape.chapel("person 3;sulks 1;");
        due.is("nobody would come", n.longest(-1), 0);
        due.noSuch("nobody would come: longest(0)", () -> n.longest(0));
    }

    private static void promise28() {
        JuniorPews x = Tape.chapel(FIVE);
        due.are("the oldest comes last", w -> x.toCome(0, w), 4, 0);
        due.are("the youngest comes first", w -> x.toCome(1, w), 0, 0);
        due.are("one between", w -> x.toCome(2, w), 3, 0);
        x.bar(0, 1);
        due.are("one who wouldn't come", w -> x.toCome(0, w), -1, -1);
        due.noSuch("toCome(0, 2)", () -> x.toCome(0, 2));
        due.noSuch("toCome(1, -1)", () -> x.toCome(1, -1));
        due.noSuch("toCome(5, 0)", () -> x.toCome(5, 0));
        JuniorPews y = Tape.chapel("person 9;person 1;person 1;seats 2;");
        due.are("no place is in front", w -> y.toCome(0, w), 0, 1);
    }

    private static void promise29() {
        JuniorPews x = Tape.chapel(FIVE);
        // without 2 nobody puts 0 out of pew 1; without 1, 2 and 3 do so, as without 3: 1, then nobody
        due.is("whose", x.whose(0), 2);
        due.is("one in front", x.whose(1), -1);
        due.is("the other one who puts out", x.whose(2), 3);
        x.bar(0, 1);
        due.is("one who wouldn't come", x.whose(0), -1);
        due.noSuch("whose(5)", () -> x.whose(5));
        JuniorPews y = Tape.chapel("person 9;person 1;person 1;seats 2;");
        due.is("of like ones the least", y.whose(0), -1);
        JuniorPews z = Tape.chapel("person 9;person 1;person 2;seats 1;");
        // 0 is in pew 2; without 1 or 2 in pew 1
        due.is("of two the least", z.whose(0), 1);
        z.bar(1, 1);
        due.is("another one who would come", z.whose(0), 2);
    }

    private static void promise30() {
        JuniorPews x = Tape.chapel(FIVE);
        due.are("nobody sits", x::couples, 0, 0);
        x.sundays(1);
        due.are("three of a pew", x::couples, 1, 3);
        x.lie(3, 9);
        due.are("the other two", x::couples, 1, 3);
        due.is("3 is with 4", x.person(3, 8), 4);
        due.is("1 is alone", x.person(1, 8), -1);
        due.noSuch("couples(2)", () -> x.couples(2));
        due.noSuch("couples(-1)", () -> x.couples(-1));
        JuniorPews y = Tape.chapel("person 1;person 20;person 20;person 1;person 3;person 9;seats 4;minds 0;");
        y.sundays(1);
        // of four there is one way, though 1 and 2 differ by nothing
        due.are("as many as can", y::couples, 3, 44);
        due.is("with whom", y.person(2, 8), 3);
    }

    private static void promise30LikeOnes() {
        JuniorPews x = Tape.chapel("person 3;person 3;person 3;arrives (age=3)*0;minds 0;");
        x.sundays(1);
        x.swap(0, 2);
        x.swap(2, 1);
        // 1, 2, 0: 2 is with 1 or with 0; the first row has 0 with 2
        due.is("0", x.person(0, 8), 2);
        due.is("1", x.person(1, 8), -1);
        due.is("2", x.person(2, 8), 0);
        x.swap(1, 0);
        x.swap(2, 1);
        // 0, 1, 2: 0 with 1
        due.is("0 of 0, 1, 2", x.person(0, 8), 1);
        due.is("2 of 0, 1, 2", x.person(2, 8), -1);
        x.lie(2, 4);
        x.swap(0, 1);
        // 1, 0, 2 by 3, 3, 4: the lesser difference
        due.is("0 of 1, 0, 2", x.person(0, 8), 1);
        JuniorPews y = Tape.chapel("person 3;person 3;person 3;person 3;person 3;person 3;seats 3;");
        y.sundays(1);
        y.swap(3, 5);
        // 0, 1, 2 and 5, 4, 3: 3 is with 4, though 4 could be with 5
        due.are("two pews", p -> y.person(p, 8), 1, 0, -1, 4, 3, -1);
        JuniorPews z = Tape.chapel("person 3;person 3;person 3;person 3;person 3;");
        z.sundays(1);
        z.swap(0, 4);
        z.swap(1, 2);
        // 4, 2, 1, 3, 0: 0 with 3 and 1 with 2
        due.are("five", p -> z.person(p, 8), 3, 2, 1, 0, -1);
    }
}
