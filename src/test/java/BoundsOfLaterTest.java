/** The boundary cases of promises 15 to 24 and 38 to 41, each sentence's in a method of its own. */
public final class BoundsOfLaterTest {
    private static final Due due = new Due();
    private static final int LEAST = Integer.MIN_VALUE;
    private static final int GREATEST = Integer.MAX_VALUE;
    private static final String TWELVE = "person 1;".repeat(12);
    private static final String COLUMN = TWELVE + "seats 1;";
    private static final String YOUNGER = "person 12;person 11;person 10;person 9;person 8;person 7;person 6;person 5;"
        + "person 4;person 3;person 2;person 1;";
    /** 0 is PUT OUT by 1, on each SUNDAY that both come. */
    private static final String TWO = "person 9;person 5;";
    private static final String LIKE = "person 5;person 5;";
    /** The 12th comes first and is PUT OUT by 0, and nobody else is. */
    private static final String OLDEST_FIRST = "person 1;".repeat(11) + "person 29;arrives 0-(age=29);";
    /** All come on the 100th SUNDAY from the first one on, or on the 101st, and on no other. */
    private static final String ON_100TH = "sulks not sunday=99;";
    private static final String ON_101ST = "sulks not sunday=100;";
    /** Neither is one of 0 to 100. */
    private static final int[] NOT_0_TO_100 = {-1, 101, LEAST, GREATEST};
    private static final int[] NOT_1_TO_100 = {0, -1, 101, LEAST, GREATEST};
    private static final int[] NO_PEOPLE = {-1, 4, 12, LEAST, GREATEST};

    public static void main(String[] args) throws IllegalAccessException {
        Cases.runAll(BoundsOfLaterTest.class, due);
    }

    /* ---- promise 15 ---- */

    /** "not 0 to 100": 0 and 100 are taken, -1 and 101 aren't. */
    private static void p15_then_0And100AreTakenAndMinus1And101AreNot() {
        JuniorPews x = Tape.chapel(TWO + ON_100TH);
        due.are("behind 0", w -> x.then(0, 0, w), -1, -1, 0, 0);
        due.are("behind 99", w -> x.then(0, 99, w), -1, -1, 0, 0);
        due.are("behind 100", w -> x.then(0, 100, w), 1, 0, 1, 1);
        due.are("behind 100", w -> x.then(1, 100, w), 0, 0, 0, 0);
        for (int sundays : NOT_0_TO_100) {
            Twins.illegal(due, "then(0, " + sundays + ", 0)", y -> y.then(0, sundays, 0));
        }
        for (int what = 0; what <= 3; what++) {
            int asked = what;
            Twins.asks(due, "then(3, 100, " + what + ")", y -> y.then(3, 100, asked));
        }
    }

    /** Behind 0 SUNDAYS it is as now: PEW, SEAT, PUT OUT since the last SUNDAY, in all. */
    private static void p15_then_behind0AsNow() {
        JuniorPews x = Twins.lived();
        for (int p = 0; p < 4; p++) {
            int person = p;
            due.are("then " + p, w -> x.then(person, 0, w), x.person(p, 0), x.person(p, 1), x.person(p, 3), x.person(p, 4));
        }
    }

    /** "NoSuchElementException: also another what": 0 and 3 are taken, -1 and 4 aren't. */
    private static void p15_then_what0And3AreTakenAndMinus1And4AreNot() {
        due.is("what 0", Twins.lived().then(0, 0, 0), 2);
        due.is("what 3", Twins.lived().then(0, 0, 3), 4);
        for (int what : new int[] {-1, 4, LEAST, GREATEST}) {
            Twins.noSuch(due, "then(0, 0, " + what + ")", x -> x.then(0, 0, what));
        }
    }

    /** "IllegalArgumentException (behind that)": no such PERSON or what comes ahead of it. */
    private static void p15_then_noSuchElementAheadOfIllegalArgument() {
        for (int p : NO_PEOPLE) {
            Twins.noSuch(due, "then(" + p + ", 0, 0)", x -> x.then(p, 0, 0));
            Twins.noSuch(due, "then(" + p + ", 101, 0)", x -> x.then(p, 101, 0));
        }
        Twins.noSuch(due, "then(0, 101, 4)", x -> x.then(0, 101, 4));
        Twins.noSuch(due, "then(0, -1, -1)", x -> x.then(0, -1, -1));
    }

    /** "how often one was PUT OUT since the SUNDAY before": 0 on one on which one isn't; "in all" goes on from now. */
    private static void p15_then_putOutSinceAndInAll() {
        JuniorPews x = Tape.chapel(TWO + "sulks sunday=2;");
        x.sundays(2);
        due.are("now", w -> x.then(0, 0, 2 + w), 1, 2);
        due.are("behind 1", w -> x.then(0, 1, 2 + w), 0, 2);
        due.are("behind 2", w -> x.then(0, 2, 2 + w), 1, 3);
        JuniorPews y = Tape.chapel(YOUNGER);
        due.are("the first of 12", w -> y.then(0, 100, w), 11, 0, 11, 1100);
    }

    /* ---- promise 16 ---- */

    /** "PEW, SEAT not 0 to 11": 0 and 11 are taken, -1 and 12 aren't. */
    private static void p16_who_pewAndSeat0And11AreTakenAndMinus1And12AreNot() {
        JuniorPews x = Tape.chapel(TWELVE);
        due.is("seat 0", x.who(0, 0, 1), 0);
        due.is("seat 11", x.who(0, 11, 1), 11);
        JuniorPews y = Tape.chapel(COLUMN);
        due.is("pew 11", y.who(11, 0, 1), 11);
        due.is("pew 11, seat 11", y.who(11, 11, 1), -1);
        for (int wrong : new int[] {-1, 12, LEAST, GREATEST}) {
            Twins.illegal(due, "who(" + wrong + ", 0, 0)", z -> z.who(wrong, 0, 0));
            Twins.illegal(due, "who(0, " + wrong + ", 0)", z -> z.who(0, wrong, 0));
        }
    }

    /** "not 0 to 100": 0 and 100 are taken, -1 and 101 aren't. */
    private static void p16_who_0And100AreTakenAndMinus1And101AreNot() {
        JuniorPews x = Tape.chapel(TWO + ON_100TH);
        due.is("behind 0", x.who(0, 0, 0), -1);
        due.is("behind 99", x.who(0, 0, 99), -1);
        due.is("behind 100", x.who(0, 0, 100), 1);
        due.is("behind 100, pew 1", x.who(1, 0, 100), 0);
        for (int sundays : NOT_0_TO_100) {
            Twins.illegal(due, "who(0, 0, " + sundays + ")", y -> y.who(0, 0, sundays));
        }
        Twins.asks(due, "who(0, 0, 100)", y -> y.who(0, 0, 100));
    }

    /** "NONE: nobody": behind the last of a PEW, where SEATS end, in a PEW without sitters, without PEOPLE. */
    private static void p16_who_noneWhereNobodySits() {
        JuniorPews x = Tape.chapel(TWELVE + "seats 11;");
        due.is("the last seat", x.who(0, 10, 1), 10);
        due.is("there is no such seat", x.who(0, 11, 1), -1);
        due.is("the pew behind", x.who(1, 0, 1), 11);
        due.is("behind the last", x.who(1, 1, 1), -1);
        due.is("an empty pew", x.who(2, 0, 1), -1);
        due.is("without people", new JuniorPews().who(0, 0, 100), -1);
        due.is("12 sit nowhere", Tape.chapel(TWELVE).who(0, 0, 0), -1);
        JuniorPews y = Tape.chapel(TWELVE + "sulks sunday=0;");
        due.is("behind 2", y.who(0, 0, 2), 0);
        due.is("12 sit nowhere behind 1", y.who(0, 0, 1), -1);
    }

    /* ---- promise 17 ---- */

    /** "not 0 to 100": 0 and 100 are taken, -1 and 101 aren't. */
    private static void p17_later_0And100AreTakenAndMinus1And101AreNot() {
        JuniorPews x = Tape.chapel(TWO + ON_100TH);
        due.are("behind 0", w -> x.later(0, w), 0, 0, 0, -1);
        due.are("behind 99", w -> x.later(99, w), 0, 0, 0, -1);
        due.are("behind 100", w -> x.later(100, w), 2, 3, 1, 0);
        for (int sundays : NOT_0_TO_100) {
            Twins.illegal(due, "later(" + sundays + ", 0)", y -> y.later(sundays, 0));
        }
        for (int what = 0; what <= 3; what++) {
            int asked = what;
            Twins.asks(due, "later(100, " + what + ")", y -> y.later(100, asked));
        }
    }

    /** "NoSuchElementException: another what": 0 and 3 are taken, -1 and 4 aren't, ahead of the SUNDAYS. */
    private static void p17_later_what0And3AreTakenAndMinus1And4AreNot() {
        due.are("lived", w -> Twins.lived().later(0, w), 3, 7, 3, 0);
        for (int what : new int[] {-1, 4, LEAST, GREATEST}) {
            Twins.noSuch(due, "later(0, " + what + ")", x -> x.later(0, what));
            Twins.noSuch(due, "later(101, " + what + ")", x -> x.later(101, what));
        }
    }

    /** "the last of the last PEW (3; NONE)", none, and 12 PEWS, without PEOPLE. */
    private static void p17_later_nobodyAndAll12() {
        JuniorPews x = Tape.chapel(COLUMN);
        due.are("nobody", w -> x.later(0, w), 0, 0, 0, -1);
        due.are("12", w -> x.later(1, w), 12, 4095, 0, 11);
        JuniorPews y = Tape.chapel(TWELVE);
        due.are("12 in a pew", w -> y.later(1, w), 1, 4095, 0, 11);
        JuniorPews z = Tape.chapel(YOUNGER);
        due.are("12 put out", w -> z.later(100, w), 12, 4095, 66, 0);
        due.are("without people", w -> new JuniorPews().later(100, w), 0, 0, 0, -1);
        JuniorPews one = Tape.chapel(TWELVE + "sulks not age=1;seats 1;arrives 0-(seat=0);");
        one.lie(0, 2);
        one.lie(11, 2);
        one.sundays(1);
        one.swap(4, 10);
        due.are("one between is the last", w -> one.later(0, w), 10, 2046, 0, 4);
        due.are("one alone", w -> Tape.chapel("person 3;").later(1, w), 1, 1, 0, 0);
    }

    /** "how often all were PUT OUT": the 12th, too, where nobody else is. */
    private static void p17_later_putOutOfThe12thAlone() {
        due.is("put out", Tape.chapel(OLDEST_FIRST).later(1, 2), 1);
    }

    /** Behind 0 SUNDAYS it is as now, also who was PUT OUT by one who came late. */
    private static void p17_later_behind0AsNow() {
        JuniorPews x = Tape.chapel(TWO);
        x.come(0);
        x.come(1);
        due.are("now", w -> x.later(0, w), 2, 3, 1, 0);
    }

    /* ---- promise 18 ---- */

    /** "PEW not 0 to 11": 0 and 11 are taken, -1 and 12 aren't. */
    private static void p18_size_pew0And11AreTakenAndMinus1And12AreNot() {
        JuniorPews x = Tape.chapel(COLUMN);
        due.is("pew 0", x.size(0, 1), 1);
        due.is("pew 11", x.size(11, 1), 1);
        for (int pew : new int[] {-1, 12, LEAST, GREATEST}) {
            Twins.illegal(due, "size(" + pew + ", 0)", y -> y.size(pew, 0));
        }
    }

    /** "not 0 to 100": 0 and 100 are taken, -1 and 101 aren't. */
    private static void p18_size_0And100AreTakenAndMinus1And101AreNot() {
        JuniorPews x = Tape.chapel(LIKE + ON_100TH);
        due.is("behind 0", x.size(0, 0), 0);
        due.is("behind 99", x.size(0, 99), 0);
        due.is("behind 100", x.size(0, 100), 2);
        for (int sundays : NOT_0_TO_100) {
            Twins.illegal(due, "size(0, " + sundays + ")", y -> y.size(0, sundays));
        }
        Twins.asks(due, "size(0, 100)", y -> y.size(0, 100));
    }

    /** A PEW of 12 and one without sitters. */
    private static void p18_size_from0To12() {
        JuniorPews x = Tape.chapel(TWELVE);
        due.is("12", x.size(0, 1), 12);
        due.is("none", x.size(1, 1), 0);
        due.is("nowhere is no pew", x.size(11, 0), 0);
        due.is("without people", new JuniorPews().size(0, 100), 0);
    }

    /* ---- promise 19 ---- */

    /** "not 1 to 100": 1 and 100 are taken, 0 and 101 aren't. */
    private static void p19_front_1And100AreTakenAnd0And101AreNot() {
        JuniorPews x = Tape.chapel(TWO);
        due.is("of 1", x.front(1, 1), 1);
        due.is("of 100", x.front(1, 100), 100);
        due.is("none of 100", x.front(0, 100), 0);
        JuniorPews y = Tape.chapel(LIKE + ON_100TH);
        due.is("of 99", y.front(0, 99), 0);
        due.is("the 100th", y.front(0, 100), 1);
        for (int sundays : NOT_1_TO_100) {
            Twins.illegal(due, "front(0, " + sundays + ")", z -> z.front(0, sundays));
        }
        Twins.asks(due, "front(0, 100)", z -> z.front(0, 100));
    }

    /** Where one sits now doesn't count. */
    private static void p19_front_nowDoesntCount() {
        JuniorPews x = Tape.chapel("person 3;sulks 1;");
        x.come(0);
        due.is("front", x.front(0, 100), 0);
    }

    /** "(behind NoSuchElementException)". */
    private static void p19_front_noSuchElementAheadOfIllegalArgument() {
        for (int p : NO_PEOPLE) {
            Twins.noSuch(due, "front(" + p + ", 1)", x -> x.front(p, 1));
            Twins.noSuch(due, "front(" + p + ", 0)", x -> x.front(p, 0));
        }
    }

    /* ---- promise 20 ---- */

    /** "behind how many SUNDAYS (0 to 100) one first does": now is 0; 100 is taken, 101 isn't. */
    private static void p20_first_0And100AreTakenAnd101IsNot() {
        JuniorPews x = Tape.chapel(LIKE + ON_100TH);
        due.is("behind 100", x.first(0), 100);
        x.come(0);
        due.is("now", x.first(0), 0);
        due.is("behind 101", Tape.chapel(LIKE + ON_101ST).first(0), -1);
    }

    /** "NONE: none": one who sits, but never in front; one who never comes. */
    private static void p20_first_noneIfNever() {
        due.is("never in front", Tape.chapel(TWO).first(0), -1);
        due.is("never", Tape.chapel("person 1;sulks 1;").first(0), -1);
    }

    private static void p20_first_noSuchPerson() {
        for (int p : NO_PEOPLE) {
            Twins.noSuch(due, "first(" + p + ")", x -> x.first(p));
        }
        Twins.asks(due, "first(0)", x -> x.first(0));
    }

    /* ---- promise 21 ---- */

    /** "behind how many SUNDAYS (0 to 100)": now is 0; 100 is taken, 101 isn't. */
    private static void p21_beside_0And100AreTakenAnd101IsNot() {
        JuniorPews x = Tape.chapel(LIKE + ON_100TH);
        due.is("behind 100", x.beside(0, 1), 100);
        x.come(1);
        x.come(0);
        due.is("now", x.beside(0, 1), 0);
        due.is("behind 101", Tape.chapel(LIKE + ON_101ST).beside(0, 1), -1);
    }

    /** "SEATS side by side of one PEW": one between, the end of a PEW and the next one's first, both nowhere. */
    private static void p21_beside_sideBySideOfOnePew() {
        JuniorPews x = Tape.chapel(TWELVE + "seats 11;");
        due.is("seats 0 and 1", x.beside(0, 1), 1);
        due.is("seats 0 and 2", x.beside(0, 2), -1);
        due.is("seats 9 and 10", x.beside(10, 9), 1);
        due.is("seat 10 and pew 1", x.beside(10, 11), -1);
        due.is("seats 10 and 11", Tape.chapel(TWELVE).beside(10, 11), 1);
        // SEAT 11 of PEW 0 and SEAT 0 of PEW 1 are never both taken by 12: PEWS of 1 have SEAT 0 one behind the other
        due.is("seat 0 of two pews", Tape.chapel(COLUMN).beside(0, 1), -1);
        due.is("both nowhere", Tape.chapel(LIKE + "sulks 1;").beside(0, 1), -1);
        due.is("one nowhere", Tape.chapel("person 5;person 4;sulks age=4;").beside(0, 1), -1);
    }

    /** "NONE: .. both are one". */
    private static void p21_beside_noneIfBothAreOne() {
        due.is("both are one", Tape.chapel(LIKE).beside(1, 1), -1);
        Twins.asks(due, "beside(1, 1)", x -> x.beside(1, 1));
    }

    private static void p21_beside_noSuchPerson() {
        for (int p : NO_PEOPLE) {
            Twins.noSuch(due, "beside(" + p + ", 0)", x -> x.beside(p, 0));
            Twins.noSuch(due, "beside(0, " + p + ")", x -> x.beside(0, p));
            Twins.noSuch(due, "beside(" + p + ", " + p + ")", x -> x.beside(p, p));
        }
        Twins.asks(due, "beside(0, 1)", x -> x.beside(0, 1));
    }

    /* ---- promise 22 ---- */

    /** "not 1 to 100": 1 and 100 are taken, 0 and 101 aren't. */
    private static void p22_together_1And100AreTakenAnd0And101AreNot() {
        JuniorPews x = Tape.chapel(LIKE);
        due.is("of 1", x.together(0, 1, 1), 1);
        due.is("of 100", x.together(0, 1, 100), 100);
        JuniorPews y = Tape.chapel(LIKE + ON_100TH);
        due.is("of 99", y.together(0, 1, 99), 0);
        due.is("the 100th", y.together(0, 1, 100), 1);
        for (int sundays : NOT_1_TO_100) {
            Twins.illegal(due, "together(0, 1, " + sundays + ")", z -> z.together(0, 1, sundays));
        }
        Twins.asks(due, "together(0, 1, 100)", z -> z.together(0, 1, 100));
    }

    /** Two PEWS, and nowhere, are no one PEW; now doesn't count. */
    private static void p22_together_nowhereIsNoPew() {
        due.is("two pews", Tape.chapel(TWO).together(0, 1, 100), 0);
        JuniorPews x = Tape.chapel(LIKE + "sulks 1;");
        due.is("both nowhere", x.together(0, 1, 100), 0);
        x.come(0);
        x.come(1);
        due.is("now", x.together(0, 1, 100), 0);
    }

    /** The first and the last SEAT of a PEW of 12 are of one PEW. */
    private static void p22_together_theEndsOfAPew() {
        due.is("seats 0 and 11", Tape.chapel(TWELVE).together(0, 11, 100), 100);
    }

    /** "(behind NoSuchElementException)". */
    private static void p22_together_noSuchElementAheadOfIllegalArgument() {
        for (int p : NO_PEOPLE) {
            Twins.noSuch(due, "together(" + p + ", 0, 1)", x -> x.together(p, 0, 1));
            Twins.noSuch(due, "together(0, " + p + ", 1)", x -> x.together(0, p, 1));
            Twins.noSuch(due, "together(" + p + ", 0, 0)", x -> x.together(p, 0, 0));
            Twins.noSuch(due, "together(0, " + p + ", 101)", x -> x.together(0, p, 101));
        }
    }

    /* ---- promise 23 ---- */

    /** "behind how many SUNDAYS (1 to 200)": 1 and 200 are taken, 201 isn't. */
    private static void p23_asNow_1And200AreTakenAnd201IsNot() {
        JuniorPews x = Tape.chapel("person 1;");
        x.sundays(1);
        due.is("behind 1", x.asNow(), 1);
        due.is("behind 200", Tape.chapel("person 1;sulks sunday=199;").asNow(), 200);
        due.is("behind 201", Tape.chapel("person 1;sulks sunday=200;").asNow(), -1);
        Twins.asks(due, "asNow()", JuniorPews::asNow);
    }

    /** "(1 without PEOPLE)". */
    private static void p23_asNow_1WithoutPeople() {
        JuniorPews x = new JuniorPews();
        due.is("at first", x.asNow(), 1);
        x.sundays(20);
        due.is("behind 20", x.asNow(), 1);
    }

    /** "each sits where one sits now, or nowhere, as now": the SEAT, too, and the last one of 12. */
    private static void p23_asNow_eachOfAll() {
        JuniorPews x = Tape.chapel(TWELVE);
        due.is("nobody sits now", x.asNow(), -1);
        x.sundays(1);
        due.is("all sit now", x.asNow(), 1);
        x.swap(10, 11);
        due.is("two seats", x.asNow(), -1);
        x.undo();
        x.leave(11);
        due.is("the last one sits nowhere", x.asNow(), -1);
        x.bar(11, 9);
        due.is("the last one is barred", x.asNow(), 1);
        due.is("all stay away", Tape.chapel("person 1;sulks 1;").asNow(), 1);
    }

    /* ---- promise 24 ---- */

    /** "not 0 to 100": 0 and 100 are taken, -1 and 101 aren't. */
    private static void p24_neighbours_0And100AreTakenAndMinus1And101AreNot() {
        JuniorPews x = Tape.chapel(LIKE + ON_100TH);
        due.is("behind 99", x.neighbours(0, 99), 0);
        due.is("behind 100", x.neighbours(0, 100), 2);
        x.come(0);
        x.come(1);
        due.is("now", x.neighbours(0, 0), 2);
        for (int sundays : NOT_0_TO_100) {
            Twins.illegal(due, "neighbours(0, " + sundays + ")", y -> y.neighbours(0, sundays));
        }
        Twins.asks(due, "neighbours(0, 100)", y -> y.neighbours(0, 100));
    }

    /** At the ends of a PEW one has one neighbour, alone none, between two. */
    private static void p24_neighbours_atTheEndsOfAPew() {
        JuniorPews x = Tape.chapel(TWELVE);
        due.is("seat 0", x.neighbours(0, 1), 2);
        due.is("seat 1", x.neighbours(1, 1), 5);
        due.is("seat 11", x.neighbours(11, 1), 1024);
        due.is("seat 10", x.neighbours(10, 100), 2048 + 512);
        due.is("nowhere", x.neighbours(0, 0), 0);
        due.is("alone", Tape.chapel(COLUMN).neighbours(5, 100), 0);
        JuniorPews y = Tape.chapel(TWELVE + "seats 6;");
        due.is("seat 5", y.neighbours(5, 1), 16);
        due.is("the next pew's first", y.neighbours(6, 1), 128);
    }

    /** "(behind NoSuchElementException)". */
    private static void p24_neighbours_noSuchElementAheadOfIllegalArgument() {
        for (int p : NO_PEOPLE) {
            Twins.noSuch(due, "neighbours(" + p + ", 0)", x -> x.neighbours(p, 0));
            Twins.noSuch(due, "neighbours(" + p + ", 101)", x -> x.neighbours(p, 101));
        }
    }

    /* ---- promise 38 ---- */

    /** "RESTLESS (what 0; NONE) .. (0 to 100 else)": 0 and 100 are taken, -1 and 101 aren't. */
    private static void p38_ahead_restlessTakes0And100AndNotMinus1And101() {
        JuniorPews x = Tape.chapel(TWO + ON_100TH);
        due.is("0", x.ahead(0, 0), -1);
        due.is("99", x.ahead(99, 0), -1);
        due.is("100", x.ahead(100, 0), 0);
        for (int sundays : NOT_0_TO_100) {
            Twins.illegal(due, "ahead(" + sundays + ", 0)", y -> y.ahead(sundays, 0));
        }
        Twins.asks(due, "ahead(100, 0)", y -> y.ahead(100, 0));
    }

    /** "none, if nobody is"; "of like ones the least"; what was before now doesn't count. */
    private static void p38_ahead_restlessNoneIfNobodyIs() {
        JuniorPews x = Tape.chapel(TWO);
        x.sundays(20);
        due.is("what was", x.ahead(0, 0), -1);
        due.is("nobody is", Tape.chapel(LIKE).ahead(100, 0), -1);
        due.is("without people", new JuniorPews().ahead(100, 0), -1);
        due.is("of like ones", Tape.chapel("person 1;person 9;person 9;person 5;person 5;").ahead(100, 0), 1);
        JuniorPews y = Tape.chapel(TWELVE + "arrives 0-(age=29);");
        y.lie(11, 29);
        // the 12th comes first, and all others put one out
        due.is("the 12th", y.ahead(100, 0), 11);
        JuniorPews z = Tape.chapel(YOUNGER + "sulks sunday=0;");
        due.is("on the second", z.ahead(2, 0), 0);
        due.is("nobody on the first", z.ahead(1, 0), -1);
    }

    /** The 12th is RESTLESS by what is to come, not by what was; so is UNMOVED. */
    private static void p38_ahead_theOneWhoIsPutOutIsThe12th() {
        JuniorPews x = Tape.chapel(OLDEST_FIRST);
        x.sundays(1);
        due.is("restless in none", x.ahead(0, 0), -1);
        due.is("restless", x.ahead(1, 0), 11);
        due.is("unmoved", x.ahead(1, 2), 0);
        due.is("unmoved of 100", x.ahead(100, 2), 0);
    }

    /** "PIOUS (1; NONE)": 0 and 100 are taken, -1 and 101 aren't. */
    private static void p38_ahead_piousTakes0And100AndNotMinus1And101() {
        JuniorPews x = Tape.chapel(TWO + ON_100TH);
        due.is("0", x.ahead(0, 1), -1);
        due.is("99", x.ahead(99, 1), -1);
        due.is("100", x.ahead(100, 1), 0);
        for (int sundays : NOT_0_TO_100) {
            Twins.illegal(due, "ahead(" + sundays + ", 1)", y -> y.ahead(sundays, 1));
        }
        Twins.asks(due, "ahead(100, 1)", y -> y.ahead(100, 1));
    }

    /** "none, if nobody does"; "of like ones the least"; who came late comes on no SUNDAY. */
    private static void p38_ahead_piousNoneIfNobodyDoes() {
        JuniorPews x = Tape.chapel("person 1;person 2;sulks 1;");
        x.come(1);
        due.is("nobody does", x.ahead(100, 1), -1);
        due.is("without people", new JuniorPews().ahead(100, 1), -1);
        JuniorPews y = Tape.chapel(TWELVE);
        due.is("of like ones", y.ahead(100, 1), 0);
        for (int p = 0; p < 11; p++) {
            y.bar(p, 1);
        }
        due.is("the 12th", y.ahead(100, 1), 11);
        JuniorPews w = Tape.chapel(TWELVE);
        w.sundays(1);
        due.is("who sits now doesn't count", w.ahead(1, 1), 0);
        JuniorPews z = Tape.chapel(TWELVE + "sulks sunday=0;");
        due.is("on the second", z.ahead(2, 1), 0);
        due.is("nobody on the first", z.ahead(1, 1), -1);
    }

    /** "UNMOVED (2; sundays 1 to 100)": 1 and 100 are taken, 0 and 101 aren't. */
    private static void p38_ahead_unmovedTakes1And100AndNot0And101() {
        JuniorPews x = Tape.chapel(TWO + ON_100TH);
        due.is("1", x.ahead(1, 2), 1);
        due.is("99", x.ahead(99, 2), 99);
        due.is("100", x.ahead(100, 2), 99);
        due.is("all", Tape.chapel(LIKE).ahead(100, 2), 100);
        due.is("none", Tape.chapel(TWO).ahead(100, 2), 0);
        due.is("without people", new JuniorPews().ahead(100, 2), 100);
        for (int sundays : NOT_1_TO_100) {
            Twins.illegal(due, "ahead(" + sundays + ", 2)", y -> y.ahead(sundays, 2));
        }
        Twins.asks(due, "ahead(100, 2)", y -> y.ahead(100, 2));
    }

    /** "DEEPEST (3; sundays 1 to 100)": 1 and 100 are taken, 0 and 101 aren't; from 0 to 12 PEWS; not those of now. */
    private static void p38_ahead_deepestTakes1And100AndNot0And101() {
        JuniorPews x = Tape.chapel(COLUMN + ON_100TH);
        x.come(0);
        due.is("1", x.ahead(1, 3), 0);
        due.is("99", x.ahead(99, 3), 0);
        due.is("100", x.ahead(100, 3), 12);
        due.is("without people", new JuniorPews().ahead(100, 3), 0);
        due.is("on the first alone", Tape.chapel(COLUMN + "sulks 0<sunday;").ahead(1, 3), 12);
        due.is("12 on the first, none behind it", Tape.chapel(COLUMN + "sulks 0<sunday;").ahead(100, 3), 12);
        for (int sundays : NOT_1_TO_100) {
            Twins.illegal(due, "ahead(" + sundays + ", 3)", y -> y.ahead(sundays, 3));
        }
        Twins.asks(due, "ahead(100, 3)", y -> y.ahead(100, 3));
    }

    /** "NoSuchElementException: another what": ahead of the SUNDAYS. */
    private static void p38_ahead_whatMinus1And4AreNotTaken() {
        for (int what : new int[] {-1, 4, LEAST, GREATEST}) {
            Twins.noSuch(due, "ahead(1, " + what + ")", x -> x.ahead(1, what));
            Twins.noSuch(due, "ahead(101, " + what + ")", x -> x.ahead(101, what));
            Twins.noSuch(due, "ahead(-1, " + what + ")", x -> x.ahead(-1, what));
        }
    }

    /* ---- promise 39 ---- */

    /** "not 0 to 100": 0 and 100 are taken, -1 and 101 aren't. */
    private static void p39_putBy_0And100AreTakenAndMinus1And101AreNot() {
        JuniorPews x = Tape.chapel(TWO + ON_100TH);
        due.is("0", x.putBy(0, 1, 0), 0);
        due.is("99", x.putBy(0, 1, 99), 0);
        due.is("100", x.putBy(0, 1, 100), 1);
        due.is("100 times", Tape.chapel(TWO).putBy(0, 1, 100), 100);
        for (int sundays : NOT_0_TO_100) {
            Twins.illegal(due, "putBy(0, 1, " + sundays + ")", y -> y.putBy(0, 1, sundays));
        }
        Twins.asks(due, "putBy(0, 1, 100)", y -> y.putBy(0, 1, 100));
    }

    /** "by a told other one (who has the SEAT then)": not the other way round, not by oneself, not by who came first. */
    private static void p39_putBy_whoHasTheSeatThen() {
        JuniorPews x = Tape.chapel("person 9;person 5;person 3;");
        // 2 puts out 1, who puts out 0, who was put out by 1 before
        due.are("0 by", p -> x.putBy(0, p, 1), 0, 2, 0);
        due.are("1 by", p -> x.putBy(1, p, 1), 0, 0, 1);
        due.are("2 by", p -> x.putBy(2, p, 1), 0, 0, 0);
        JuniorPews y = Tape.chapel(YOUNGER);
        due.is("0 by 1, of 12", y.putBy(0, 1, 100), 1100);
        due.is("10 by 11", y.putBy(10, 11, 100), 100);
        due.is("what was doesn't count", after().putBy(0, 1, 0), 0);
    }

    private static JuniorPews after() {
        JuniorPews x = Tape.chapel(TWO);
        x.sundays(1);
        return x;
    }

    /** "(behind NoSuchElementException)". */
    private static void p39_putBy_noSuchElementAheadOfIllegalArgument() {
        for (int p : NO_PEOPLE) {
            Twins.noSuch(due, "putBy(" + p + ", 0, 0)", x -> x.putBy(p, 0, 0));
            Twins.noSuch(due, "putBy(0, " + p + ", 0)", x -> x.putBy(0, p, 0));
            Twins.noSuch(due, "putBy(" + p + ", 0, 101)", x -> x.putBy(p, 0, 101));
            Twins.noSuch(due, "putBy(0, " + p + ", -1)", x -> x.putBy(0, p, -1));
        }
    }

    /* ---- promise 40 ---- */

    /** "age not 0 to 29": 0 and 29 are taken, -1 and 30 aren't. */
    private static void p40_forward_age0And29AreTakenAndMinus1And30AreNot() {
        JuniorPews x = Tape.chapel(TWO);
        due.is("0", x.forward(0, 0, 1), 1);
        due.is("29", Tape.chapel(LIKE).forward(0, 29, 1), -1);
        due.is("the age that one has", x.forward(0, 9, 1), 0);
        for (int age : new int[] {-1, 30, LEAST, GREATEST}) {
            Twins.illegal(due, "forward(0, " + age + ", 1)", y -> y.forward(0, age, 1));
        }
    }

    /** "not 0 to 100": 0 and 100 are taken, -1 and 101 aren't; behind 0 nothing is another one. */
    private static void p40_forward_0And100AreTakenAndMinus1And101AreNot() {
        JuniorPews x = Tape.chapel(TWO + "sulks not sunday=99 and not age=3;");
        due.is("0", x.forward(0, 3, 0), 0);
        due.is("1", x.forward(0, 3, 1), 12);
        due.is("100", x.forward(0, 3, 100), 1);
        for (int sundays : NOT_0_TO_100) {
            Twins.illegal(due, "forward(0, 3, " + sundays + ")", y -> y.forward(0, 3, sundays));
        }
        Twins.asks(due, "forward(0, 0, 100)", y -> y.forward(0, 0, 100));
        // 1 is 6 and puts out 0, who sits in PEW 1 then; 0 would stay in front at 6, but not at 7
        due.is("lived, 6", Twins.lived().forward(0, 6, 1), 1);
        due.is("lived, 7", Twins.lived().forward(0, 7, 1), 0);
    }

    /** "(below 0: more; nowhere counts as 12)": from 12 to -12, 0 of nowhere twice. */
    private static void p40_forward_nowhereCountsAs12() {
        JuniorPews x = Tape.chapel("person 3;person 4;sulks age=3 or age=5;");
        due.is("from nowhere to the front", x.forward(0, 0, 1), 12);
        due.is("from nowhere to nowhere", x.forward(0, 5, 1), 0);
        due.is("from the front to nowhere", x.forward(1, 5, 1), -12);
        due.is("from pew 11 to the front", Tape.chapel(YOUNGER).forward(0, 0, 1), 11);
        due.is("from the front to pew 11", Tape.chapel(COLUMN).forward(0, 2, 1), -11);
        // PEW 11 is 11's, who comes last, and 0 to 10 would be put out by all behind, were they 2
        due.is("the last of 12", Tape.chapel(COLUMN).forward(11, 0, 1), 11);
        due.is("one between", Tape.chapel(COLUMN).forward(5, 2, 100), -6);
    }

    /** "(behind NoSuchElementException)". */
    private static void p40_forward_noSuchElementAheadOfIllegalArgument() {
        for (int p : NO_PEOPLE) {
            Twins.noSuch(due, "forward(" + p + ", 0, 0)", x -> x.forward(p, 0, 0));
            Twins.noSuch(due, "forward(" + p + ", 30, 0)", x -> x.forward(p, 30, 0));
            Twins.noSuch(due, "forward(" + p + ", 0, 101)", x -> x.forward(p, 0, 101));
        }
    }

    /* ---- promise 41 ---- */

    /** "not 1 to 100": 1 and 100 are taken, 0 and 101 aren't. */
    private static void p41_spread_1And100AreTakenAnd0And101AreNot() {
        JuniorPews x = Tape.chapel(TWO + ON_100TH);
        due.is("1", x.spread(0, 1), 0);
        due.is("99", x.spread(0, 99), 0);
        due.is("100", x.spread(0, 100), 2);
        for (int sundays : NOT_1_TO_100) {
            Twins.illegal(due, "spread(0, " + sundays + ")", y -> y.spread(0, sundays));
        }
        Twins.asks(due, "spread(0, 100)", y -> y.spread(0, 100));
    }

    /** PEW 0 and PEW 11 are bits; nowhere is none, and now doesn't count. */
    private static void p41_spread_bitsOfPews0And11() {
        due.is("pew 0", Tape.chapel(COLUMN).spread(0, 1), 1);
        due.is("pew 11", Tape.chapel(COLUMN).spread(11, 1), 2048);
        JuniorPews x = Tape.chapel("person 1;sulks 1;");
        x.come(0);
        due.is("now", x.spread(0, 100), 0);
        // one person less comes in each second Sunday: 11 comes to pew 11 or 10
        JuniorPews y = Tape.chapel("person 2;" + "person 1;".repeat(11) + "seats 1;minds 0;sulks age=2 and sunday/2*2=sunday;");
        due.is("pews 10 and 11", y.spread(11, 2), 3072);
    }

    /** "(behind NoSuchElementException)". */
    private static void p41_spread_noSuchElementAheadOfIllegalArgument() {
        for (int p : NO_PEOPLE) {
            Twins.noSuch(due, "spread(" + p + ", 1)", x -> x.spread(p, 1));
            Twins.noSuch(due, "spread(" + p + ", 0)", x -> x.spread(p, 0));
        }
    }
}
