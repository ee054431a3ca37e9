/** Promises 1 to 4, and the language: what a text may say, its faults, and what expressions give. */
public final class TextTest {
    private static final Due due = new Due();

    public static void main(String[] args) {
        promise1();
        promise2();
        promise3();
        promise3AllAnew();
        promise4();
        faultsOfLines();
        faultsOfExpressions();
        faultsOfDepth();
        whatExpressionsGive();
        valuesOfArrivesAndSulks();
        valuesOfMinds();
        longText();
        due.end("TextTest");
    }

    private static void promise1() {
        JuniorPews x = new JuniorPews();
        due.are("new: count", x::count, 0, 12, 0, 0, 0, 0, 0, 0, 0, 0, 0, 0, 0, 0, 0);
        due.is("new: fault", x.fault(), -1);
        due.is("new: undo", x.undo(), -1);
        due.is("new: restore", x.restore(), false);
        due.noSuch("new: person", () -> x.person(0, 0));
        due.noSuch("new: pew", () -> x.pew(0, 0));
    }

    private static void promise2() {
        JuniorPews x = new JuniorPews();
        // "person 1;" with a byte that is no token far behind
        due.is("feed", x.feed(0x70657273, 0x6f6e2031, 0x3b202020, 0x20202020, 0x202020ff), 20);
        due.is("feed: chapel up to it", x.chapel(19), 0);
        due.is("feed: people", x.count(0), 1);
        x.feed(0x70657273, 0x6f6e2031, 0x3b202020, 0x20202020, 0x202020ff);
        due.is("feed: chapel with it", x.chapel(20), 1);
        due.is("feed: its place", x.fault(), 19);
        for (int i = 1; i <= 35; i++) {
            due.is("feed " + i, x.feed(0x20202020, 0x20202020, 0x20202020, 0x20202020, 0x20202020), 20 * i);
        }
        due.is("feed beyond", x.feed(0, 0, 0, 0, 0), -1);
        due.is("feed beyond: bytes", x.count(11), 700);
        due.is("feed: 700 blanks", x.chapel(700), 0);
        due.is("feed: empty", x.count(11), 0);
    }

    private static void promise3() {
        JuniorPews x = new JuniorPews();
        due.illegal("chapel(1) without a tape", () -> x.chapel(1));
        due.illegal("chapel(-1)", () -> x.chapel(-1));
        due.is("chapel(0)", x.chapel(0), 0);
        Tape.feed(x, "person 3;seats 4;?");
        due.illegal("chapel(21)", () -> x.chapel(21));
        due.illegal("chapel(-1) with a tape", () -> x.chapel(-1));
        due.is("the tape stays", x.count(11), 20);
        due.is("chapel(17)", x.chapel(17), 0);
        due.is("people", x.count(0), 1);
        due.is("seats", x.count(1), 4);
        due.is("the tape is empty", x.count(11), 0);
        due.is("a fault", Tape.tell(x, "person 3;person 4;?"), 1);
        due.is("the tape is empty by a fault", x.count(11), 0);
        due.is("people stay", x.count(0), 1);
        due.is("seats stay", x.count(1), 4);
        due.is("status 0", x.count(12), 1);
        due.is("12 people", Tape.tell(x, "person 0;person 29;".repeat(6)), 0);
        due.is("12 people: count", x.count(0), 12);
        due.is("12 people: seats", x.count(1), 12);
        due.is("12 people: the last one's age", x.person(11, 2), 29);
    }

    private static void promise3AllAnew() {
        JuniorPews x = Tape.chapel("person 9;person 3;seats 1;arrives 9-age;sulks age=3 and sunday=2;minds 0;");
        x.sundays(3);
        x.bar(0, 4);
        x.lie(1, 7);
        x.see(0, 1, 1);
        x.image();
        x.sundays(99);
        x.see(0, 1, 12);
        due.is("a fault", Tape.tell(x, "person 1;minds away;"), 3);
        due.are("all stays: count", x::count, 2, 1, 3, 1, 1, 2, 0, 0, 1, 3, 1, 0, 1, 1, 1);
        due.is("all stays: the rules", x.order(0), 1);
        due.is("the image stays", x.restore(), true);
        due.is("anew", Tape.tell(x, "person 4;person 3;"), 0);
        due.are("anew: count", x::count, 2, 12, 0, 0, 0, 3, 0, 0, 0, 0, 0, 0, 1, 1, 1);
        due.is("anew: undo", x.undo(), -1);
        due.is("anew: restore", x.restore(), false);
        due.are("anew: person 0", w -> x.person(0, w), -1, -1, 4, 0, 0, 0, 0, 0, -1);
        due.is("anew: no rule arrives", x.order(0), 0);
        due.is("anew: no rule minds", x.sundays(1) + x.count(7), 2);
        due.is("an empty text", x.chapel(0), 0);
        due.is("an empty text: people", x.count(0), 0);
    }

    private static void promise4() {
        JuniorPews x = new JuniorPews();
        Tape.tell(x, "person 3; persons 4;");
        due.is("fault", x.fault(), 10);
        due.illegal("chapel(5)", () -> x.chapel(5));
        due.is("fault stays by an exception", x.fault(), 10);
        Tape.tell(x, "seats 13;");
        due.is("the latest fault", x.fault(), 6);
        Tape.tell(x, "seats 12;");
        due.is("no fault", x.fault(), -1);
    }

    private static void fault(String text, int code, int place) {
        JuniorPews x = new JuniorPews();
        due.is("chapel of " + text, Tape.tell(x, text), code);
        due.is("fault of " + text, x.fault(), place);
    }

    private static void fine(String text) {
        fault(text, 0, -1);
    }

    private static void faultsOfLines() {
        fine("");
        fine(" \n ");
        fine("person0029;seats\n0012 ;");
        fault("person", 1, 6);
        fault("person  ", 1, 8);
        fault("person 3", 1, 8);
        fault("person 3 4;", 1, 9);
        fault("person age;", 1, 7);
        fault("person 30;", 2, 7);
        fault("person 00001;", 2, 7);
        fault("person (1);", 1, 7);
        fault("Person 3;", 1, 0);
        fault("persons 3;", 1, 0);
        fault("perso 3;", 1, 0);
        fault("age;", 1, 0);
        fault("or;", 1, 0);
        fault("12345;", 1, 0);
        fault(";", 1, 0);
        fault("person 3;;", 1, 9);
        fault("person\t3;", 1, 6);
        fault("person 3\r;", 1, 8);
        fault("person 3;\0", 1, 9);
        fault("person 3;" + (char) 225, 1, 9);
        fault("person 3,", 1, 8);
        fault("seats 0;", 2, 6);
        fault("seats 13;", 2, 6);
        fault("seats -1;", 1, 6);
        fault("seats 1;seats 12345;", 5, 8);
        fault("seats 2;arrives 1;arrives 2;", 5, 18);
        fault("sulks 1;person 2;sulks x;", 5, 17);
        fault("minds 1;minds 1;", 5, 8);
        fine("arrives 1;sulks 1;minds 1;seats 1;");
        fault("person 1;".repeat(13), 2, 108);
        fault("person 1;".repeat(12) + "person x;", 2, 108);
        fine("person 1;".repeat(12) + "seats 1;");
    }

    private static void faultsOfExpressions() {
        fault("arrives", 1, 7);
        fault("arrives;", 1, 7);
        fault("arrives 1", 1, 9);
        fault("arrives 12345;", 2, 8);
        fine("arrives 9999;");
        fine("arrives 0000;");
        fault("arrives 1 2;", 1, 10);
        fault("arrives age age;", 1, 12);
        fault("arrives age 12345;", 1, 12);
        fault("arrives 1<2<3;", 1, 11);
        fault("arrives 1=2<3;", 1, 11);
        fault("arrives -1;", 1, 8);
        fault("arrives 1+;", 1, 10);
        fault("arrives 1+", 1, 10);
        fault("arrives 1 or;", 1, 12);
        fault("arrives foo;", 3, 8);
        fault("arrives or;", 3, 8);
        fault("arrives z;", 3, 8);
        fault("arrives a;", 3, 8);
        fault("arrives `;", 1, 8);
        fault("arrives {;", 1, 8);
        fault("arrives 1 and or 2;", 3, 14);
        fault("arrives theirs;", 3, 8);
        fault("sulks theirs;", 3, 6);
        fault("minds away;", 3, 6);
        fault("minds sunday;", 3, 6);
        fault("arrives person;", 3, 8);
        fault("arrives 1+not 2;", 3, 10);
        fault("arrives 1<not 2;", 3, 10);
        fault("arrives not;", 1, 11);
        fault("arrives not foo;", 3, 12);
        fine("arrives not 1<2;");
        fine("arrives not(1<2)or not 3 and 4;");
        fault("arrives ();", 1, 9);
        fault("arrives (1;", 1, 10);
        fault("arrives 1);", 1, 9);
        fault("arrives (1", 1, 10);
        fault("arrives 1%2;", 1, 9);
        fault("arrives 1>2;", 1, 9);
        fine("arrives age+pew-seat*moved/away<sunday;");
        fine("minds age+pew-seat*moved/theirs<2;");
        fine("arrives not not not not not not 1;");
        fault("arrives not not not not not not not 1;", 2, 32);
        fault("arrives not not not not not not not;", 2, 32);
        fine("arrives not not not(not not not not 1)and not not not not 1;");
    }

    private static void faultsOfDepth() {
        fine("arrives (((((1)))));");
        fault("arrives ((((((1))))));", 2, 14);
        fault("arrives ((((((12345))))));", 2, 14);
        fault("arrives ((((((age))))));", 2, 14);
        fault("arrives ((((((foo))))));", 2, 14);
        fault("arrives ((((((or))))));", 2, 14);
        fault("arrives ((((((not 1))))));", 2, 14);
        fault("arrives (((((((1)))))));", 2, 14);
        fault("arrives (((((()))))));", 1, 14);
        fault("arrives ((((((+1))))));", 1, 14);
        fault("arrives ((((((", 1, 14);
        fault("arrives ((((((?", 1, 14);
        fault("arrives (((((foo)))));", 3, 13);
        fine("arrives (((((1)))))+(((((1)))))*(1);");
        fault("arrives 1+(1+(1+(1+(1+(1+( 1))))));", 2, 27);
    }

    /** Whether a test over numbers holds. */
    private static void holds(String test) {
        JuniorPews x = Tape.chapel("person 7;sulks " + test + ";");
        due.is(test, x.count(5), 0);
    }

    private static void whatExpressionsGive() {
        holds("1+2*3=7");
        holds("(1+2)*3=9");
        holds("9-4-3=2");
        holds("100/7/3=4");
        holds("2*7/4=3");
        holds("7/4*2=2");
        holds("(0-7)/2=0-3");
        holds("7/(0-2)=0-3");
        holds("7/0=0");
        holds("(0-7)/0=0");
        holds("9999*9999*9999<0 or 9999*9999*9999=0-9999*9999*9999+2*9999*9999*9999");
        // 10000 * 10000 * 100 is 10 to the power of 10, which wraps to 1410065408
        holds("(9999+1)*(9999+1)*100=1410*1000*1000+65*1000+408");
        holds("(not 0)+(not 5)=1");
        holds("(1<2)+(2<1)+(3=3)+(3=4)=2");
        holds("(2 and 4)+(0-3 or 0)=2");
        holds("(5 and 0)+(0 or 0)=0");
        holds("(not 1 and 0)=0");
        holds("1 or 1 and 0");
        holds("(not 1<2)=0");
        holds("not not 5=5");
        holds("(not not 5)=1");
        holds("5");
        holds("(3 or 1)=1");
        holds("(3)=3");
        holds("age=7");
        JuniorPews x = Tape.chapel("person 7;sulks 0-1;");
        due.is("sulks below 0 is none", x.count(5), 1);
    }

    private static void valuesOfArrivesAndSulks() {
        JuniorPews x = Tape.chapel("person 5;person 9;person 7;arrives 0-age;");
        due.are("arrives 0-age", x::order, 1, 2, 0, -1);
        x = Tape.chapel("person 5;person 5;person 5;arrives 1;");
        due.are("like ones", x::order, 0, 1, 2, -1);
        x = Tape.chapel("person 1;person 2;seats 1;sulks pew=12 and seat=12 and sunday=0 and age=1;arrives 0-pew;");
        due.is("nowhere is 12", x.count(5), 2);
        x.sundays(1);
        due.are("pew", x::order, 0, 1, -1);
        x.sundays(1);
        due.are("pew behind", x::order, 1, 0, -1);
        x = Tape.chapel("person 1;person 1;person 1;arrives 0-seat;");
        x.sundays(1);
        due.are("seat", x::order, 2, 1, 0, -1);
        x = Tape.chapel("person 3;person 2;person 1;sulks moved=2;");
        x.sundays(1);
        due.is("moved", x.count(5), 6);
        x.sundays(1);
        due.is("moved is 0 for who stays away", x.person(0, 3), 0);
        due.is("moved anew", x.count(5), 7);
        x = Tape.chapel("person 1;sulks away<2;");
        x.sundays(2);
        due.is("away", x.count(5), 1);
        x.sundays(1);
        due.is("away no more", x.count(5), 0);
        x = Tape.chapel("person 1;sulks sunday=1;");
        due.is("sunday 0", x.count(5), 1);
        x.sundays(1);
        due.is("sunday 1", x.count(5), 0);
        x.sundays(1);
        due.is("sunday 2", x.count(5), 1);
    }

    private static void valuesOfMinds() {
        JuniorPews x = Tape.chapel("person 5;person 9;minds age<theirs;");
        x.sundays(1);
        due.is("age and theirs", x.person(0, 0), 1);
        x = Tape.chapel("person 5;person 9;person 5;minds seat=1;");
        x.sundays(1);
        due.is("seat", x.pew(0, 1), 5);
        x = Tape.chapel("person 5;person 9;person 5;seats 1;minds pew=1;");
        x.sundays(1);
        // 1 goes to pew 1, where 2 puts it out
        due.is("pew", x.person(0, 0) * 100 + x.person(1, 0) * 10 + x.person(2, 0), 21);
        x = Tape.chapel("person 5;person 9;person 5;minds moved<1;");
        x.sundays(1);
        // 1 puts out 0, 2 puts out 1, who finds 0 put out already and sits down behind
        due.is("moved", x.person(0, 0) * 10 + x.person(1, 0), 11);
        due.is("moved: behind", x.person(1, 1), 1);
        x = Tape.chapel("person 20;person 15;person 9;minds theirs=15;");
        x.sundays(1);
        // 1 puts out 0; who is put out comes to the next pew with his own age
        due.is("theirs of one put out", x.person(0, 0), 1);
        x = Tape.chapel("person 5;person 9;minds 0-1;");
        x.sundays(1);
        due.is("minds below 0 is none", x.count(3), 1);
    }

    private static void longText() {
        String head = "person 1;sulks ";
        StringBuilder text = new StringBuilder(head).append("1");
        int sum = 1;
        while (text.length() + 2 <= 694) {
            text.append("+1");
            sum++;
        }
        text.append('=').append(sum).append(';');
        due.is("a long text", text.length() <= 700 && text.length() > 695, true);
        JuniorPews x = Tape.chapel(text.toString());
        due.is("its sum", x.count(5), 0);
        String nots = "not not not not not not ";
        x = Tape.chapel("person 1;sulks " + (nots + "1 and ").repeat(21) + nots + "0;");
        due.is("many nots", x.count(5), 1);
        fault(";".repeat(700), 1, 0);
        fault("arrives 1" + "+1".repeat(345) + "?", 1, 699);
    }
}
