/** Promises 8 to 14, 44 and 45: acts, how they are undone, and the image. */
public final class ActsTest {
    private static final String FIVE = "person 20;person 5;person 12;person 8;person 12;";
    private static final Due due = new Due();

    public static void main(String[] args) {
        promise8();
        promise8Limit();
        sundaysByRules();
        promise9();
        promise10();
        promise11();
        promise12();
        promise13();
        promise14();
        promise14Latest();
        promises44And45();
        due.end("ActsTest");
    }

    /** Where all sit, by person 100 by pew and the seat. */
    private static void sit(String when, JuniorPews x, int... spots) {
        for (int p = 0; p < spots.length; p++) {
            due.is(when + ": pew of " + p, x.person(p, 0), spots[p] < 0 ? -1 : spots[p] / 100);
            due.is(when + ": seat of " + p, x.person(p, 1), spots[p] < 0 ? -1 : spots[p] % 100);
        }
    }

    private static void promise8() {
        JuniorPews x = Tape.chapel(FIVE);
        due.is("sundays(1)", x.sundays(1), 1);
        sit("a Sunday", x, 200, 0, 100, 1, 2);
        due.is("sundays(20)", x.sundays(20), 21);
        due.is("put out in all", x.person(0, 4), 42);
        due.is("put out since", x.person(0, 3), 2);
        due.is("sundays(0)", x.sundays(0), -1);
        due.is("sundays(21)", x.sundays(21), -1);
        due.is("sundays(-1)", x.sundays(-1), -1);
        due.is("status 1", x.count(13), 3);
        due.is("the Sunday stays", x.count(2), 21);
        due.is("one act each", x.count(9), 2);
    }

    private static void promise8Limit() {
        JuniorPews x = new JuniorPews();
        for (int i = 1; i < 500; i++) {
            x.sundays(20);
        }
        due.is("9980", x.count(2), 9980);
        due.is("above 9999", x.sundays(20), -1);
        due.is("9999", x.sundays(19), 9999);
        due.is("10000", x.sundays(1), -1);
        due.is("status 1", x.count(13), 2);
    }

    private static void sundaysByRules() {
        JuniorPews x = Tape.chapel("person 3;person 2;person 1;seats 2;arrives age;");
        x.sundays(1);
        // 2, 1, 0 come: nobody minds, pew 0 is full for 0
        sit("arrives", x, 100, 1, 0);
        x = Tape.chapel("person 3;person 2;person 1;sulks sunday=1 and pew=0;");
        x.sundays(1);
        sit("before they sulk", x, 200, 100, 0);
        x.sundays(1);
        sit("sulks", x, 100, 0, -1);
        due.is("away", x.person(2, 5), 1);
        x.sundays(1);
        due.is("away no more", x.person(2, 5), 0);
        x = Tape.chapel("person 3;person 2;person 3;seats 1;minds age=theirs;");
        x.sundays(1);
        sit("minds", x, 200, 100, 0);
    }

    private static void promise9() {
        JuniorPews x = Tape.chapel(FIVE);
        due.is("the first one", x.come(0), 0);
        due.is("puts out one", x.come(1), 1);
        sit("two came", x, 100, 0, -1, -1, -1);
        due.is("who sits already", x.come(1), -1);
        due.is("status 1", x.count(13), 1);
        due.is("behind the last", x.come(2), 0);
        due.is("puts out two", x.come(3), 2);
        sit("four came", x, 200, 0, 100, 1, -1);
        due.is("moved", x.person(0, 3), 2);
        due.is("in all", x.person(0, 4), 2);
        due.is("acts", x.count(9), 4);
        due.noSuch("come(5)", () -> x.come(5));
        due.noSuch("come(-1)", () -> x.come(-1));
        x.bar(4, 1);
        x.sundays(1);
        due.is("away", x.person(4, 5), 1);
        x.bar(4, 3);
        due.is("barred or not", x.come(4), 0);
        due.is("away stays", x.person(4, 5), 1);
        due.is("barred stays", x.person(4, 6), 3);
        due.is("the Sunday stays", x.count(2), 1);
    }

    private static void promise10() {
        JuniorPews x = Tape.chapel(FIVE);
        due.is("nowhere", x.leave(0), -1);
        due.is("status 1", x.count(13), 1);
        x.sundays(1);
        due.is("the first of a pew", x.leave(1), 0);
        sit("they come up by a seat", x, 200, -1, 100, 0, 1);
        due.is("one alone", x.leave(2), 1);
        sit("pews come up", x, 100, -1, -1, 0, 1);
        due.is("put out stays", x.person(2, 3), 1);
        due.is("away stays", x.person(2, 5), 0);
        due.is("the last of a pew", x.leave(4), 0);
        sit("nobody comes up", x, 100, -1, -1, 0, -1);
        due.is("the front pew", x.leave(3), 0);
        sit("one is left", x, 0, -1, -1, -1, -1);
        due.is("the last one", x.leave(0), 0);
        due.is("pews", x.count(3), 0);
        due.noSuch("leave(5)", () -> x.leave(5));
        JuniorPews y = Tape.chapel("person 1;".repeat(12) + "seats 1;");
        y.sundays(1);
        due.is("the front of 12 pews", y.leave(0), 0);
        due.is("11 pews", y.count(3), 11);
        due.is("the last one came up", y.person(11, 0), 10);
        JuniorPews z = Tape.chapel("person 9;person 8;person 9;person 9;person 9;seats 2;arrives 0-age;");
        z.sundays(1);
        sit("a pew of two behind", z, 200, 0, 1, 100, 101);
        z.leave(1);
        z.leave(2);
        sit("they come up, seat by seat", z, 100, -1, -1, 0, 1);
    }

    private static void promise11() {
        JuniorPews x = Tape.chapel(FIVE);
        due.is("nowhere", x.swap(0, 1), false);
        x.sundays(1);
        due.is("swap", x.swap(1, 0), true);
        sit("swapped", x, 0, 200, 100, 1, 2);
        due.is("in one pew", x.swap(0, 4), true);
        sit("swapped in one pew", x, 2, 200, 100, 1, 0);
        due.is("put out stays", x.person(0, 3), 2);
        due.is("both are one", x.swap(3, 3), false);
        x.leave(2);
        due.is("one sits nowhere", x.swap(2, 3), false);
        due.is("the other one sits nowhere", x.swap(3, 2), false);
        due.is("status 1", x.count(13), 4);
        due.is("acts", x.count(9), 4);
        due.is("pew 0 by seats", x.pew(0, 2) * 10 + x.pew(0, 3), 40);
        due.noSuch("swap(5, 0)", () -> x.swap(5, 0) ? 1 : 0);
        due.noSuch("swap(0, 5)", () -> x.swap(0, 5) ? 1 : 0);
    }

    private static void promise12() {
        JuniorPews x = Tape.chapel(FIVE);
        due.is("lie", x.lie(0, 0), 20);
        due.is("lie again", x.lie(0, 29), 0);
        due.is("it is so", x.lie(0, 29), -1);
        due.is("30", x.lie(0, 30), -1);
        due.is("-1", x.lie(0, -1), -1);
        due.is("status 1", x.count(13), 3);
        due.is("age", x.person(0, 2), 29);
        due.noSuch("lie(5, 1)", () -> x.lie(5, 1));
        due.noSuch("lie(5, 30)", () -> x.lie(5, 30));
        x.lie(0, 5);
        x.sundays(1);
        due.is("it counts", x.person(0, 0), 0);
    }

    private static void promise13() {
        JuniorPews x = Tape.chapel(FIVE);
        due.is("it is so", x.bar(1, 0), -1);
        due.is("bar", x.bar(1, 2), 0);
        due.is("in place of what is left", x.bar(1, 9), 2);
        due.is("10", x.bar(1, 10), -1);
        due.is("-1", x.bar(1, -1), -1);
        due.is("status 1", x.count(13), 3);
        x.bar(1, 2);
        x.sundays(1);
        due.is("one less", x.person(1, 6), 1);
        due.is("nowhere", x.person(1, 0), -1);
        due.is("away", x.person(1, 5), 1);
        x.sundays(1);
        due.is("none left", x.person(1, 6), 0);
        due.is("still nowhere", x.person(1, 0), -1);
        x.sundays(1);
        due.is("there again", x.person(1, 0), 0);
        x.bar(1, 3);
        due.is("one who is barred sits on", x.person(1, 0), 0);
        due.is("let in again", x.bar(1, 0), 3);
        due.noSuch("bar(5, 1)", () -> x.bar(5, 1));
    }

    private static void promise14() {
        JuniorPews x = Tape.chapel(FIVE);
        x.bar(4, 2);
        x.sundays(2);
        x.come(4);
        x.leave(1);
        x.swap(0, 3);
        x.lie(2, 3);
        x.come(1);
        due.is("acts", x.count(9), 7);
        due.is("a late one", x.undo(), 6);
        due.is("a lie", x.undo(), 5);
        due.is("age", x.person(2, 2), 12);
        due.is("a swap", x.undo(), 4);
        sit("not swapped", x, 200, -1, 100, 0, 1);
        due.is("who left", x.undo(), 3);
        sit("not left", x, 200, 0, 100, 1, 2);
        due.is("who came late", x.undo(), 2);
        sit("not come late", x, 200, 0, 100, 1, -1);
        due.is("away", x.person(4, 5), 2);
        due.is("two Sundays", x.undo(), 1);
        sit("at first", x, -1, -1, -1, -1, -1);
        due.are("all as it was", w -> x.person(0, w), -1, -1, 20, 0, 0, 0, 0, 0, -1);
        due.is("barred", x.person(4, 6), 2);
        due.is("the Sunday", x.count(2), 0);
        due.is("the first act", x.undo(), 0);
        due.is("not barred", x.person(4, 6), 0);
        due.is("there is none", x.undo(), -1);
        due.is("that is not refused", x.count(13), 0);
        x.lie(0, 1);
        due.is("an act anew", x.undo(), 0);
        due.is("put out by a late one", x.come(0) + x.come(1), 1);
        x.undo();
        due.is("not put out", x.person(0, 4) + x.count(6) + x.count(7), 0);
        sit("where it was", x, 0, -1, -1, -1, -1);
    }

    private static void promise14Latest() {
        JuniorPews x = Tape.chapel("person 0;");
        for (int i = 1; i <= 95; i++) {
            x.lie(0, 7 * i % 30);
            due.is("acts " + i, x.count(9), Math.min(40, i));
        }
        for (int i = 39; i >= 0; i--) {
            due.is("undo to " + i, x.undo(), i);
            due.is("the age ahead of " + i, x.person(0, 2), 7 * (55 + i) % 30);
        }
        due.is("no more", x.undo(), -1);
        due.is("the age ahead of the latest 40", x.person(0, 2), 7 * 55 % 30);
    }

    private static void promises44And45() {
        JuniorPews x = Tape.chapel(FIVE);
        due.is("there is none", x.restore(), false);
        x.sundays(1);
        x.bar(2, 4);
        x.see(0, 3, 1);
        x.image();
        x.sundays(3);
        x.lie(0, 3);
        x.leave(3);
        x.swap(0, 1);
        x.bar(2, 9);
        x.come(3);
        x.sundays(0);
        x.forget();
        x.see(1, 0, 0);
        x.see(1, 0, 0);
        x.see(1, 0, 99);
        due.is("restore", x.restore(), true);
        due.are("as the image: count", x::count, 5, 12, 1, 3, 31, 27, 3, 3, 7, 2, 1, 0, 0, 1, 1);
        sit("as the image", x, 200, 0, 100, 1, 2);
        due.are("as the image: 2", w -> x.person(2, w), 1, 0, 12, 1, 1, 0, 4, -1, -1);
        due.is("the acts of the image", x.undo(), 1);
        due.is("the acts of the image: barred", x.person(2, 6), 0);
        due.is("what was seen then", x.old(2), 0);
        x.forget();
        due.is("once more", x.restore(), true);
        due.is("once more: seen", x.count(10), 1);
        due.is("once more: acts", x.count(9), 2);
        x.lie(1, 28);
        x.image();
        x.lie(1, 27);
        x.restore();
        due.is("in place of another one", x.person(1, 2), 28);
        Tape.tell(x, FIVE);
        due.is("gone by a chapel", x.restore(), false);
    }
}
