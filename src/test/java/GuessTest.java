/** Promises 31 to 37, 42 and 43: what is seen, chance, choice, years, and what to do. */
public final class GuessTest {
    private static final String FIVE = "person 20;person 5;person 12;person 8;person 12;";
    private static final Due due = new Due();

    public static void main(String[] args) {
        promise31();
        promise32();
        promise33();
        promise34();
        promise35();
        promise36();
        promise37();
        promise42();
        promise43();
        due.end("GuessTest");
    }

    private static void promise31() {
        JuniorPews x = Tape.chapel(FIVE);
        due.is("not 0 to 20: 21", x.see(0, 21, 0), -1);
        due.is("not 0 to 20: -1", x.see(0, -1, 0), -1);
        due.is("not 0 to 11: 12", x.see(0, 0, 12), -1);
        due.is("not 0 to 11: -1", x.see(0, 0, -1), -1);
        due.is("status 2", x.count(14), 4);
        due.noSuch("nobody", () -> x.see(5, 0, 0));
        due.noSuch("nobody ahead", () -> x.see(5, 21, 0));
        for (int i = 1; i <= 8; i++) {
            due.is("see " + i, x.see(i % 5, 20, 11), i);
        }
        due.is("there are 8", x.see(0, 0, 0), -1);
        due.is("8 seen", x.count(10), 8);
        due.is("status 2 again", x.count(14), 5);
        due.noSuch("nobody, though there are 8", () -> x.see(-1, 0, 0));
        due.is("status 1 has none", x.count(13), 0);
    }

    private static void promise32() {
        JuniorPews x = Tape.chapel(FIVE);
        x.see(0, 1, 11);
        due.is("it is not so", x.old(0), 0);
        x.forget();
        due.is("none seen", x.count(10), 0);
        due.is("all are so", x.old(0), 145);
        due.is("see anew", x.see(0, 1, 2), 1);
        x.forget();
        x.forget();
        due.is("forgotten twice", x.count(10), 0);
    }

    private static void promise33() {
        JuniorPews x = Tape.chapel("person 9;person 5;");
        due.are("nothing is seen", x::old, 58, 0, 1);
        x.see(0, 1, 1);
        // 0 stays behind 1 with 6 to 29 but 9, or with 1 at 0 to 8 but 5
        due.are("0 sat behind", x::old, 23 + 8, 6, 1);
        x.see(1, 2, 0);
        due.are("and 1 in front", x::old, 31, 6, 1);
        x.see(0, 0, 0);
        due.are("who sat in front now", x::old, 0, -1, 0);
        x.come(0);
        due.are("and does now", x::old, 31, 6, 1);
        x.forget();
        x.see(0, 20, 0);
        due.are("0 sat in front behind 20", x::old, 6 + 21, 0, 0);
        x.lie(0, 2);
        due.are("by another age", x::old, 5 + 27, 0, 1);
        x.undo();
        due.are("undone", x::old, 27, 0, 0);
        due.is("nothing has changed", x.person(0, 2), 9);
        due.noSuch("old(3)", () -> x.old(3));
        due.noSuch("old(-1)", () -> x.old(-1));
        JuniorPews y = Tape.chapel("person 9;person 5;person 9;");
        y.see(0, 3, 0);
        // 0 at 0 to 5, else 1 at 9 or more: 100 by who
        due.is("the first by who", y.old(1), 0);
        y.see(1, 1, 0);
        y.lie(0, 5);
        due.is("the first", y.old(1), 0);
        y.lie(0, 0);
        due.is("another one than one has", y.old(1), 1);
        JuniorPews z = Tape.chapel("person 9;person 5;person 5;");
        z.see(0, 1, 0);
        z.see(2, 1, 0);
        z.lie(2, 15);
        // 0 at 6 to 29 is put out by 1: 0 to 5, or 1 at 9 and more, up to 15 or not: 2 minds nobody
        due.is("how many", z.old(0), 6 + 21);
        JuniorPews w = Tape.chapel("person 0;person 5;");
        w.see(0, 1, 1);
        due.is("the first is 100 by 0", w.old(1), 6);
        w.see(1, 1, 0);
        w.see(1, 1, 1);
        due.are("it can't be so", w::old, 0, -1, 0);
    }

    private static void promise34() {
        due.are("without people", new JuniorPews()::look, -1, 0);
        JuniorPews x = Tape.chapel("person 9;person 5;");
        // 0 is behind by most, in front by some; 1 is in front, or behind if older than 9
        due.are("of like ones the least", x::look, 0, 2);
        x.see(0, 1, 1);
        due.are("who always sat there", x::look, 0, 1);
        x.see(0, 1, 0);
        due.are("none without any", x::look, -1, 0);
        due.noSuch("look(2)", () -> x.look(2));
        due.noSuch("look(-1)", () -> x.look(-1));
        JuniorPews y = Tape.chapel("person 3;person 9;sulks age/10*10=age or sunday=3 and age=3;");
        // 0 sulks at 0, 10, 20, is in front if not older than 9, else in pew 1; 1 is never in pew 1
        due.are("nowhere is one, too", y::look, 0, 3);
        JuniorPews z = Tape.chapel("person 9;person 5;person 7;");
        // 0: pew 2, 1 or 0; 1: 0, or put out by 2
        due.are("most unlike pews", z::look, 0, 3);
        JuniorPews w = Tape.chapel("person 5;person 6;person 9;sulks age=9 and sunday=3;seats 1;");
        // 2 doesn't come then unless AGE is another one
        due.is("behind 4 Sundays", w.look(1), 4);
    }

    private static void promise35() {
        JuniorPews x = Tape.chapel(FIVE);
        due.is("1 on one", x.rain(1, 1, 5), 10);
        due.is("0 on one", x.rain(0, 1, 5), 0);
        JuniorPews y = Tape.chapel("person 15;person 14;person 16;");
        due.is("15 stays away", y.rain(0, 1, 3), 0);
        y.lie(1, 15);
        due.is("dry", y.rain(0, 1, 3), 7);
        due.is("on two: the second one counts", y.rain(0, 2, 3), 70);
        due.is("never", y.rain(0, 5, 10), 0);
        due.is("always", y.rain(0, 5, 0), 100000);
        due.is("on five", y.rain(0, 5, 4), 60000);
        due.is("14 comes", y.lie(1, 14) + y.rain(1, 3, 9), 15 + 1000);
        JuniorPews z = Tape.chapel("person 20;sulks away=1;");
        // on the second: 0 comes on the first and on the second dry, or stays away on the first, then sulks
        due.is("who is kept away by rain is away", z.rain(0, 2, 4), 36);
        z.bar(0, 1);
        due.is("barred on the first, sulks on the second", z.rain(0, 2, 4), 0);
        due.is("comes on the third", z.rain(0, 3, 4), 600);
        due.illegal("sundays 0", () -> x.rain(0, 0, 5));
        due.illegal("sundays 6", () -> x.rain(0, 6, 5));
        due.illegal("tenths -1", () -> x.rain(0, 1, -1));
        due.illegal("tenths 11", () -> x.rain(0, 1, 11));
        due.noSuch("nobody ahead", () -> x.rain(5, 6, 11));
        due.is("nothing has changed", z.count(2), 0);
    }

    private static void promise36() {
        JuniorPews x = Tape.chapel(FIVE);
        due.are("nobody gains", w -> x.game(0, 1, w), 1, 0);
        JuniorPews y = Tape.chapel("person 5;person 5;person 5;seats 1;");
        // 2 is in pew 2 and gains 10; early in pew 0: 12 less 1; 0 has 12, then 11 in pew 1, or 11 early ahead of 2
        due.are("2 comes early", w -> y.game(0, 2, w), 2, 1);
        due.are("the other way round", w -> y.game(2, 0, w), 2, 10);
        JuniorPews z = Tape.chapel("person 9;person 1;minds theirs<age;");
        // 0 is put out either way: 12 - 1 - 1; 1 has 12
        due.are("put out is a loss", w -> z.game(0, 1, w), 1, 0);
        JuniorPews v = Tape.chapel("person 1;person 9;arrives 9-age;");
        due.are("in place of being put out", w -> v.game(0, 1, w), 1, 0);
        JuniorPews s = Tape.chapel("person 1;person 9;sulks 1;");
        due.are("who wouldn't come loses by the choice", w -> s.game(0, 1, w), 1, 0);
        JuniorPews q = Tape.chapel("person 3;person 3;minds seat=0 and moved=0;");
        // who comes first is put out by the other one: 10 to 12; the other one gains nothing by being early
        due.are("who comes first is put out", w -> q.game(0, 1, w), 1, 0);
        due.are("who comes first is put out, 1 first", w -> q.game(1, 0, w), 1, 0);
        due.illegal("both are one", () -> x.game(0, 0, 0));
        due.noSuch("what 2", () -> x.game(0, 1, 2));
        due.noSuch("what ahead", () -> x.game(0, 0, 2));
        due.noSuch("what -1", () -> x.game(0, 1, -1));
        due.noSuch("nobody", () -> x.game(5, 5, 0));
        due.noSuch("the other one", () -> x.game(0, 5, 0));
    }

    /** The draws, written out once more. */
    private static long seed;

    private static int draw(int n) {
        seed = (seed * 1103515245L + 12345L) % (1L << 32);
        return (int) (seed / 65536 % 32768 % n);
    }

    private static void promise37() {
        JuniorPews x = Tape.chapel(FIVE);
        due.are("no Sundays", w -> x.years(5, 0, w), 0, 0, 0);
        due.are("without people", w -> new JuniorPews().years(5, 100, w), 0, 0, 0);
        for (int start = 0; start < 40; start++) {
            JuniorPews y = Tape.chapel(FIVE);
            int begin = start * 77_777_777;
            seed = begin & 0xffffffffL;
            int times = 0;
            for (int i = 0; i < 12; i++) {
                int act = draw(5);
                if (act == 0) {
                    y.bar(draw(5), 1);
                } else if (act == 1) {
                    int person = draw(5);
                    y.lie(person, draw(30));
                }
                y.sundays(1);
                times += y.count(6);
            }
            due.are("years by " + begin, w -> x.years(begin, 12, w), times, y.count(3), y.pew(0, 1));
        }
        JuniorPews one = Tape.chapel("person 3;sulks age=3;");
        seed = 1;
        int sundays = 0;
        boolean lied = false;
        for (int i = 1; i <= 100 && !lied; i++) {
            int act = draw(5);
            int drawn = act == 0 || act == 1 ? draw(1) : 0;
            lied = act == 1 && draw(30) != 3 - drawn;
            sundays = i;
        }
        due.is("one alone doesn't come", one.years(1, sundays - 1, 2), 0);
        due.is("one alone comes by another age", one.years(1, sundays, 2), 1);
        due.is("nothing has changed", x.count(2), 0);
        x.bar(0, 9);
        x.sundays(1);
        due.are("now", w -> x.years(1, 0, w), 0, x.count(3), x.pew(0, 1));
        due.illegal("n 101", () -> x.years(1, 101, 0));
        due.illegal("n -1", () -> x.years(1, -1, 0));
        due.noSuch("what 3", () -> x.years(1, 1, 3));
        due.noSuch("what ahead", () -> x.years(1, 101, -1));
    }

    private static void promise42() {
        JuniorPews x = Tape.chapel(FIVE);
        due.are("as young as can be", w -> x.toLie(0, 3, w), 0, 3);
        due.are("100", w -> x.toLie(0, 100, w), 0, 100);
        JuniorPews y = Tape.chapel("person 4;person 5;minds age<theirs;");
        // the elder puts out: 0 is in front by 5 or more
        due.are("the least that does", w -> y.toLie(0, 9, w), 5, 9);
        due.are("as it is", w -> y.toLie(1, 9, w), 0, 9);
        JuniorPews z = Tape.chapel("person 4;sulks age<7 or age<9 and sunday=1;");
        due.are("most, not all", w -> z.toLie(0, 2, w), 9, 2);
        due.are("of like ones", w -> z.toLie(0, 1, w), 7, 1);
        due.are("the oldest", w -> Tape.chapel("person 4;sulks age<29;").toLie(0, 9, w), 29, 9);
        due.are("none", w -> Tape.chapel("person 4;sulks 1;").toLie(0, 9, w), 0, 0);
        due.is("nothing has changed", z.person(0, 2), 4);
        due.illegal("0", () -> x.toLie(0, 0, 0));
        due.illegal("101", () -> x.toLie(0, 101, 0));
        due.noSuch("what 2", () -> x.toLie(0, 1, 2));
        due.noSuch("what ahead", () -> x.toLie(0, 0, -1));
        due.noSuch("nobody ahead", () -> x.toLie(5, 0, 0));
    }

    private static void promise43() {
        due.is("without people", new JuniorPews().toBar(), -1);
        JuniorPews x = Tape.chapel(FIVE);
        // without 0 one is put out, as without 3
        due.is("of like ones the least", x.toBar(), 0);
        x.bar(0, 1);
        due.is("who would come", x.toBar(), 2);
        JuniorPews y = Tape.chapel("person 1;person 1;");
        due.is("nobody is put out", y.toBar(), -1);
        JuniorPews z = Tape.chapel("person 9;person 8;person 7;person 6;");
        // 0 is put out thrice, 1 twice, 2 once; without any one of them three are
        due.is("fewer than without", z.toBar(), 0);
        JuniorPews w = Tape.chapel("person 9;person 9;person 3;minds theirs<age and moved=0;");
        // 2 puts out 0 alone; without 2 nobody is
        due.is("who puts out", w.toBar(), 2);
    }
}
