import java.util.Map;

/** The boundary cases of promises 8 to 14, 44 and 45, each sentence's in a method of its own. */
public final class BoundsOfActsTest {
    private static final Due due = new Due();
    private static final int LEAST = Integer.MIN_VALUE;
    private static final int GREATEST = Integer.MAX_VALUE;
    private static final String TWELVE = "person 1;".repeat(12);
    private static final String COLUMN = TWELVE + "seats 1;";
    private static final String YOUNGER = "person 12;person 11;person 10;person 9;person 8;person 7;person 6;person 5;"
        + "person 4;person 3;person 2;person 1;";
    /** Who are no PEOPLE of an object that has lived. */
    private static final int[] NO_PEOPLE = {-1, 4, 12, LEAST, GREATEST};

    public static void main(String[] args) throws IllegalAccessException {
        Cases.runAll(BoundsOfActsTest.class, due);
    }

    private static JuniorPews after(String text) {
        JuniorPews x = Tape.chapel(text);
        x.sundays(1);
        return x;
    }

    /** Where all sit, by PERSON 100 by PEW and the SEAT. */
    private static void sit(String when, JuniorPews x, int... spots) {
        for (int p = 0; p < spots.length; p++) {
            due.is(when + ": pew of " + p, x.person(p, 0), spots[p] < 0 ? -1 : spots[p] / 100);
            due.is(when + ": seat of " + p, x.person(p, 1), spots[p] < 0 ? -1 : spots[p] % 100);
        }
    }

    /** An object on whose SUNDAY so many of 9999 are left. */
    private static JuniorPews nearTheLastSunday(int left) {
        JuniorPews x = new JuniorPews();
        for (int i = 0; i < 499; i++) {
            x.sundays(20);
        }
        if (left < 19) {
            x.sundays(19 - left);
        }
        return x;
    }

    /* ---- promise 8 ---- */

    /** "not 1 to 20": 1 and 20 are taken, 0 and 21 aren't. */
    private static void p08_sundays_1And20AreTakenAnd0And21AreNot() {
        JuniorPews x = Tape.chapel("person 1;");
        due.is("sundays(1)", x.sundays(1), 1);
        due.is("sundays(20)", x.sundays(20), 21);
        for (int many : new int[] {0, 21, -1, LEAST, GREATEST}) {
            Twins.refuses(due, "sundays(" + many + ")", 13, y -> y.sundays(many));
        }
    }

    /** "it would be above 9999": 9999 is taken, by 19 or by 1; 10000 isn't. */
    private static void p08_sundays_9999IsTakenAnd10000IsNot() {
        JuniorPews x = nearTheLastSunday(19);
        due.is("sundays(20)", x.sundays(20), -1);
        due.is("sundays(19)", x.sundays(19), 9999);
        due.is("sundays(1)", x.sundays(1), -1);
        due.is("status 1", x.count(13), 2);
        due.is("the Sunday", x.count(2), 9999);
        JuniorPews y = nearTheLastSunday(1);
        due.is("9998", y.count(2), 9998);
        due.is("sundays(2)", y.sundays(2), -1);
        due.is("sundays(1)", y.sundays(1), 9999);
    }

    /** Behind a refusal at 9999 an act is undone, and then Sundays go by again. */
    private static void p08_sundays_areTakenAgainBehindAnUndo() {
        JuniorPews x = nearTheLastSunday(0);
        due.is("refused", x.sundays(1), -1);
        due.is("undo", x.undo(), 39);
        due.is("the Sunday", x.count(2), 9980);
        due.is("sundays(19)", x.sundays(19), 9999);
    }

    /** Many SUNDAYS are one ACT, and are undone as one. */
    private static void p08_sundays_20AreOneAct() {
        JuniorPews x = Tape.chapel("person 9;person 5;");
        x.sundays(20);
        due.is("acts", x.count(9), 1);
        due.is("put out", x.count(7), 20);
        due.is("undo", x.undo(), 0);
        due.are("as at first", x::count, 2, 12, 0, 0, 0, 3, 0, 0);
    }

    /** A SUNDAY on which nobody comes, as all SULK or are BARRED, or there is nobody. */
    private static void p08_sundays_onWhichNobodyComes() {
        JuniorPews x = after("person 3;person 4;sulks sunday=1;");
        x.sundays(1);
        due.are("count", i -> x.count(2 + i), 2, 0, 0, 3, 0);
        due.are("away", p -> x.person(p, 5), 1, 1);
        JuniorPews y = new JuniorPews();
        due.is("without people", y.sundays(1), 1);
    }

    /** "who is BARRED is so for one SUNDAY less": not below 0; who SULKS, too, if one is BARRED. */
    private static void p08_sundays_barredGoesDownTo0() {
        JuniorPews x = Tape.chapel("person 3;sulks sunday<2;");
        x.bar(0, 1);
        x.sundays(1);
        due.is("0", x.person(0, 6), 0);
        x.sundays(1);
        due.is("still 0", x.person(0, 6), 0);
        due.is("away", x.person(0, 5), 2);
        x.sundays(1);
        due.is("came", x.person(0, 5), 0);
    }

    /* ---- promise 9 ---- */

    /** "NONE (STATUS 1): one sits already". */
    private static void p09_come_noneIfOneSits() {
        for (int p = 0; p < 3; p++) {
            int sitter = p;
            Twins.refuses(due, "come(" + p + ")", 13, x -> x.come(sitter));
        }
        JuniorPews x = Twins.lived();
        due.is("who sits nowhere", x.come(3), 1);
        due.is("then sits", x.come(3), -1);
        due.is("status 1", x.count(13), 2);
    }

    /** "how many are PUT OUT": nobody in an empty chapel, 11 at most. */
    private static void p09_come_from0To11ArePutOut() {
        JuniorPews x = Tape.chapel(YOUNGER);
        for (int p = 0; p < 12; p++) {
            due.is("come(" + p + ")", x.come(p), p);
        }
        due.is("pews", x.count(3), 12);
        due.is("put out in all", x.count(7), 66);
        JuniorPews y = Tape.chapel(COLUMN);
        for (int p = 0; p < 12; p++) {
            due.is("nobody minds " + p, y.come(p), 0);
            due.is("pew of " + p, y.person(p, 0), p);
        }
    }

    /** "(BARRED or not; 'away' stays)". */
    private static void p09_come_barredAndAwayStay() {
        JuniorPews x = Tape.chapel("person 3;");
        x.bar(0, 9);
        x.sundays(2);
        due.is("come", x.come(0), 0);
        due.are("away, barred", i -> x.person(0, 5 + i), 2, 7);
        due.is("the Sunday", x.count(2), 2);
        x.sundays(1);
        due.are("one more", i -> x.person(0, 5 + i), 3, 6);
        due.is("nowhere again", x.person(0, 0), -1);
    }

    /** "'away' stays", of who is PUT OUT by one who comes late, too. */
    private static void p09_come_awayOfWhoIsPutOutStays() {
        JuniorPews x = Tape.chapel("person 9;person 5;");
        x.bar(0, 2);
        x.bar(1, 2);
        x.sundays(2);
        x.come(0);
        due.is("puts out one", x.come(1), 1);
        due.are("who is put out", w -> x.person(0, w), 1, 0, 9, 1, 1, 2, 0);
        due.are("who comes", w -> x.person(1, w), 0, 0, 5, 0, 0, 2, 0);
    }

    /** "no such PERSON (as everywhere)". */
    private static void p09_come_noSuchPerson() {
        for (int p : NO_PEOPLE) {
            Twins.noSuch(due, "come(" + p + ")", x -> x.come(p));
        }
        JuniorPews nobody = new JuniorPews();
        due.noSuch("without people", () -> nobody.come(0));
        JuniorPews x = Tape.chapel(TWELVE);
        due.is("the 12th", x.come(11), 0);
        due.noSuch("the 13th", () -> x.come(12));
    }

    /* ---- promise 10 ---- */

    /** "NONE (STATUS 1): nowhere". */
    private static void p10_leave_noneIfNowhere() {
        Twins.refuses(due, "leave(3)", 13, x -> x.leave(3));
        JuniorPews x = after("person 1;");
        due.is("leave(0)", x.leave(0), 0);
        due.is("leave(0) again", x.leave(0), -1);
        due.is("status 1", x.count(13), 1);
        due.is("acts", x.count(9), 2);
    }

    /** "those behind in the PEW come up by a SEAT": behind the first, the last, of a full PEW. */
    private static void p10_leave_thoseBehindComeUpByASeat() {
        JuniorPews x = after(TWELVE);
        x.leave(0);
        sit("the first left", x, -1, 0, 1, 2, 3, 4, 5, 6, 7, 8, 9, 10);
        x.leave(11);
        sit("the last left", x, -1, 0, 1, 2, 3, 4, 5, 6, 7, 8, 9, -1);
        due.are("pew 0", w -> x.pew(0, w), 10, 2046, 1, 10, 10);
        JuniorPews y = after("person 1;".repeat(6) + "seats 3;");
        due.is("a pew behind", y.leave(3), 1);
        sit("its first left", y, 0, 1, 2, -1, 100, 101);
        JuniorPews z = after(TWELVE + "seats 6;");
        z.leave(10);
        sit("the last one comes up", z, 0, 1, 2, 3, 4, 5, 100, 101, 102, 103, -1, 104);
    }

    /** "and, if it is empty, PEWS behind come up": behind the first of 12, none behind the last; not if it isn't empty. */
    private static void p10_leave_pewsBehindComeUpIfItIsEmpty() {
        JuniorPews x = after(COLUMN);
        due.is("the first", x.leave(0), 0);
        sit("come up", x, -1, 0, 100, 200, 300, 400, 500, 600, 700, 800, 900, 1000);
        due.is("the last", x.leave(11), 10);
        sit("nobody comes up", x, -1, 0, 100, 200, 300, 400, 500, 600, 700, 800, 900, -1);
        due.is("pews", x.count(3), 10);
        JuniorPews y = after("person 1;person 1;person 1;seats 2;");
        due.is("one of two", y.leave(0), 0);
        sit("not empty", y, -1, 0, 100);
        due.is("the other one", y.leave(1), 0);
        sit("empty", y, -1, -1, 0);
        due.is("the last one of all", y.leave(2), 0);
        due.is("no pew", y.count(3), 0);
        JuniorPews z = after("person 9;".repeat(12) + "seats 4;");
        for (int p = 0; p < 4; p++) {
            z.leave(p);
        }
        sit("full pews come up", z, -1, -1, -1, -1, 0, 1, 2, 3, 100, 101, 102, 103);
        due.are("the pew behind", w -> z.pew(1, w), 4, 3840, 8, 11, 36);
    }

    /** "How often one was PUT OUT, 'away', stay". */
    private static void p10_leave_putOutAndAwayStay() {
        JuniorPews x = after("person 9;person 5;");
        x.leave(0);
        due.are("person 0", w -> x.person(0, w), -1, -1, 9, 1, 1, 0, 0, 0, -1);
        due.are("put out", i -> x.count(6 + i), 1, 1);
    }

    private static void p10_leave_noSuchPerson() {
        for (int p : NO_PEOPLE) {
            Twins.noSuch(due, "leave(" + p + ")", x -> x.leave(p));
        }
    }

    /* ---- promise 11 ---- */

    private static void refusesSwap(String call, int person, int other) {
        JuniorPews x = Twins.lived();
        due.is(call, x.swap(person, other), false);
        Twins.compare(due, call, x, Twins.lived(), Map.of("count 13", 1L));
    }

    /** "False (STATUS 1): both are one": one who sits, one who doesn't. */
    private static void p11_swap_falseIfBothAreOne() {
        refusesSwap("swap(0, 0)", 0, 0);
        refusesSwap("swap(3, 3)", 3, 3);
    }

    /** "False (STATUS 1): .. one of both sits nowhere": the one, the other one, both. */
    private static void p11_swap_falseIfOneOfBothSitsNowhere() {
        refusesSwap("swap(0, 3)", 0, 3);
        refusesSwap("swap(3, 0)", 3, 0);
        JuniorPews x = Tape.chapel("person 1;person 2;");
        due.is("both", x.swap(0, 1), false);
        due.is("status 1", x.count(13), 1);
    }

    /** Two who sit: the first and the last SEAT of a PEW, the first and the last PEW. */
    private static void p11_swap_trueOfTwoWhoSit() {
        JuniorPews x = after(TWELVE);
        due.is("seats 0 and 11", x.swap(0, 11), true);
        due.are("pew 0", w -> x.pew(0, w), 12, 4095, 11, 0, 12);
        JuniorPews y = after(COLUMN);
        due.is("pews 0 and 11", y.swap(11, 0), true);
        due.is("pew 0", y.pew(0, 2), 11);
        due.is("pew 11", y.pew(11, 2), 0);
        due.is("and back", y.swap(11, 0), true);
        due.is("acts", y.count(9), 3);
        due.is("nobody is put out", y.count(7), 0);
    }

    /** "How often one was PUT OUT, 'away', stay": of both; AGE and BARRED, too. */
    private static void p11_swap_putOutAndAwayStay() {
        JuniorPews x = Tape.chapel("person 9;person 5;");
        x.bar(0, 2);
        x.sundays(1);
        x.come(0);
        x.leave(1);
        x.come(1);
        x.swap(0, 1);
        due.are("person 0", w -> x.person(0, w), 0, 0, 9, 1, 1, 1, 1, -1, -1);
        due.are("person 1", w -> x.person(1, w), 1, 0, 5, 0, 0, 0, 0, 0, -1);
    }

    /** No such PERSON, the one or the other one, also if both are one. */
    private static void p11_swap_noSuchPerson() {
        for (int p : NO_PEOPLE) {
            Twins.noSuch(due, "swap(" + p + ", 0)", x -> x.swap(p, 0) ? 1 : 0);
            Twins.noSuch(due, "swap(0, " + p + ")", x -> x.swap(0, p) ? 1 : 0);
            Twins.noSuch(due, "swap(3, " + p + ")", x -> x.swap(3, p) ? 1 : 0);
            Twins.noSuch(due, "swap of " + p + " with oneself", x -> x.swap(p, p) ? 1 : 0);
        }
    }

    /* ---- promise 12 ---- */

    /** "not 0 to 29": 0 and 29 are taken, -1 and 30 aren't. */
    private static void p12_lie_0And29AreTakenAndMinus1And30AreNot() {
        JuniorPews x = Tape.chapel("person 7;");
        due.is("lie(0, 0)", x.lie(0, 0), 7);
        due.is("lie(0, 29)", x.lie(0, 29), 0);
        due.is("lie(0, 7)", x.lie(0, 7), 29);
        for (int age : new int[] {-1, 30, LEAST, GREATEST}) {
            Twins.refuses(due, "lie(1, " + age + ")", 13, y -> y.lie(1, age));
        }
    }

    /** "it is so": the AGE that one has now, not the one that the text told. */
    private static void p12_lie_noneIfItIsSo() {
        Twins.refuses(due, "lie(1, 6)", 13, x -> x.lie(1, 6));
        JuniorPews x = Twins.lived();
        due.is("as the text told", x.lie(1, 5), 6);
        JuniorPews y = Tape.chapel("person 0;person 29;");
        due.is("0", y.lie(0, 0), -1);
        due.is("29", y.lie(1, 29), -1);
    }

    private static void p12_lie_noSuchPerson() {
        for (int p : NO_PEOPLE) {
            Twins.noSuch(due, "lie(" + p + ", 3)", x -> x.lie(p, 3));
            Twins.noSuch(due, "lie(" + p + ", 30)", x -> x.lie(p, 30));
        }
    }

    /** One who LIES stays where one sits, BARRED, PUT OUT and AWAY as before. */
    private static void p12_lie_nothingElseChanges() {
        JuniorPews x = after("person 9;person 5;");
        x.lie(1, 29);
        due.are("person 1", w -> x.person(1, w), 0, 0, 29, 0, 0, 0, 0, 1, -1);
        due.are("person 0", w -> x.person(0, w), 1, 0, 9, 1, 1, 0, 0, 0, -1);
    }

    /* ---- promise 13 ---- */

    /** "not 0 to 9": 0 and 9 are taken, -1 and 10 aren't. */
    private static void p13_bar_0And9AreTakenAndMinus1And10AreNot() {
        JuniorPews x = Tape.chapel("person 7;");
        due.is("bar(0, 9)", x.bar(0, 9), 0);
        due.is("bar(0, 0)", x.bar(0, 0), 9);
        due.is("bar(0, 1)", x.bar(0, 1), 0);
        for (int sundays : new int[] {-1, 10, LEAST, GREATEST}) {
            Twins.refuses(due, "bar(3, " + sundays + ")", 13, y -> y.bar(3, sundays));
        }
    }

    /** "it is so": 0 of one who isn't BARRED, what is left of one who is. */
    private static void p13_bar_noneIfItIsSo() {
        Twins.refuses(due, "bar(0, 0)", 13, x -> x.bar(0, 0));
        Twins.refuses(due, "bar(3, 4)", 13, x -> x.bar(3, 4));
        JuniorPews x = Twins.lived();
        x.sundays(1);
        due.is("it is less now", x.bar(3, 4), 3);
        due.is("what is left", x.bar(3, 4), -1);
    }

    private static void p13_bar_noSuchPerson() {
        for (int p : NO_PEOPLE) {
            Twins.noSuch(due, "bar(" + p + ", 3)", x -> x.bar(p, 3));
            Twins.noSuch(due, "bar(" + p + ", 10)", x -> x.bar(p, 10));
        }
    }

    /** BARRED for 1: away on one SUNDAY; for 9: on nine; for 0: on none. */
    private static void p13_bar_1KeepsAwayOnceAnd9NineTimes() {
        JuniorPews x = Tape.chapel("person 7;");
        x.bar(0, 1);
        due.are("1", k -> x.then(0, k, 0), -1, -1, 0, 0);
        x.bar(0, 9);
        due.is("9", x.then(0, 9, 0), -1);
        due.is("behind 10", x.then(0, 10, 0), 0);
        x.bar(0, 0);
        due.is("0", x.then(0, 1, 0), 0);
    }

    /** "How often one was PUT OUT, 'away', stay", and where one sits: BARRED or not, it is for the SUNDAYS to come. */
    private static void p13_bar_nothingElseChanges() {
        JuniorPews x = after("person 9;person 5;");
        x.bar(0, 9);
        due.are("person 0", w -> x.person(0, w), 1, 0, 9, 1, 1, 0, 9, -1, -1);
        due.are("person 1", w -> x.person(1, w), 0, 0, 5, 0, 0, 0, 0, 0, -1);
    }

    /* ---- promise 14 ---- */

    /** "NONE: there is none": at first, when all are UNDONE, behind a chapel(); it is no refusal and changes nothing. */
    private static void p14_undo_noneIfThereIsNone() {
        JuniorPews x = Tape.chapel("person 7;");
        due.is("at first", x.undo(), -1);
        x.lie(0, 8);
        due.is("one", x.undo(), 0);
        due.is("no more", x.undo(), -1);
        due.are("status", i -> x.count(12 + i), 0, 0, 0);
        due.is("age", x.person(0, 2), 7);
        x.lie(0, 8);
        Tape.tell(x, "person 7;");
        due.is("behind a chapel", x.undo(), -1);
        JuniorPews y = Twins.lived();
        JuniorPews z = Twins.lived();
        for (int i = 0; i < 5; i++) {
            y.undo();
            z.undo();
        }
        due.is("lived", y.undo(), -1);
        Twins.compare(due, "undo()", y, z, Map.of());
    }

    /** "ACTS (at most 40 are kept, the latest ones)": the 40th is kept with all, by the 41st the first one is gone. */
    private static void p14_undo_40AreKeptAndThe41stPutsOutTheFirst() {
        JuniorPews x = Tape.chapel("person 0;");
        for (int i = 1; i <= 40; i++) {
            x.lie(0, i % 29 + 1);
            due.is("acts " + i, x.count(9), i);
        }
        undoAll(x, 40, 0);
        JuniorPews y = Tape.chapel("person 0;");
        for (int i = 1; i <= 41; i++) {
            y.lie(0, i % 29 + 1);
        }
        due.is("acts 41", y.count(9), 40);
        undoAll(y, 40, 2);
        JuniorPews z = Tape.chapel("person 0;");
        for (int i = 1; i <= 81; i++) {
            z.lie(0, i % 29 + 1);
        }
        undoAll(z, 40, 41 % 29 + 1);
    }

    private static void undoAll(JuniorPews x, int acts, int ageThen) {
        for (int i = acts - 1; i >= 0; i--) {
            due.is("undo to " + i, x.undo(), i);
        }
        due.is("no more", x.undo(), -1);
        due.is("the age then", x.person(0, 2), ageThen);
    }

    /** A refused ACT isn't kept: what is UNDONE is the one before. */
    private static void p14_undo_aRefusedActIsNotKept() {
        JuniorPews x = Tape.chapel("person 7;person 9;");
        x.lie(0, 8);
        x.lie(0, 30);
        x.bar(0, 10);
        x.leave(0);
        x.swap(0, 1);
        x.sundays(21);
        due.is("acts", x.count(9), 1);
        due.is("undo", x.undo(), 0);
        due.is("age", x.person(0, 2), 7);
    }

    /** Each kind of ACT is UNDONE, with all that it changed. */
    private static void p14_undo_eachKind() {
        undoes("sundays(20)", x -> x.sundays(20));
        undoes("come(3)", x -> x.come(3));
        undoes("leave(2)", x -> x.leave(2));
        undoes("swap(0, 2)", x -> x.swap(0, 2));
        undoes("lie(0, 0)", x -> x.lie(0, 0));
        undoes("bar(3, 0)", x -> x.bar(3, 0));
    }

    private static void undoes(String act, java.util.function.Consumer<JuniorPews> f) {
        JuniorPews x = Twins.lived();
        f.accept(x);
        due.is(act + ": acts", x.count(9), 6);
        due.is(act + " undone", x.undo(), 5);
        Twins.compare(due, act + " undone", x, Twins.lived(), Map.of());
    }

    /** All 12 sit in their PEWS again, the last one, too. */
    private static void p14_undo_the12thSitsAgain() {
        JuniorPews x = after(COLUMN);
        x.leave(11);
        x.undo();
        due.are("pew 11", w -> x.pew(11, w), 1, 2048, 11, 11, 1);
        JuniorPews y = after(TWELVE);
        y.leave(0);
        y.undo();
        due.are("pew 0", w -> y.pew(0, w), 12, 4095, 0, 11, 12);
    }

    /** What is SEEN, STATUS, the tape and the image are no ACTS: they stay as an ACT is UNDONE. */
    private static void p14_undo_seenStatusTapeAndImageStay() {
        JuniorPews x = Twins.lived();
        due.is("undo", x.undo(), 4);
        due.are("seen, tape, status", i -> x.count(10 + i), 2, 20, 1, 1, 1);
        due.is("the image", x.restore(), true);
    }

    /* ---- promise 44 ---- */

    /** "in place of another one": of two images the second one counts. */
    private static void p44_image_inPlaceOfAnotherOne() {
        JuniorPews x = Tape.chapel("person 7;");
        x.image();
        x.lie(0, 8);
        x.image();
        x.lie(0, 9);
        due.is("restore", x.restore(), true);
        due.is("age", x.person(0, 2), 8);
    }

    /** It changes nothing else, and isn't changed by what comes behind it. */
    private static void p44_image_nothingElseChanges() {
        JuniorPews x = Twins.lived();
        JuniorPews y = Twins.lived();
        x.image();
        y.image();
        x.image();
        Twins.compare(due, "image()", x, y, Map.of());
        JuniorPews z = Twins.lived();
        z.image();
        due.are("count", z::count, 4, 2, 2, 3, 7, 7, 3, 6, 7, 5, 2, 20, 1, 1, 1);
    }

    /** Without PEOPLE there is an image, too: of the SUNDAY. */
    private static void p44_image_withoutPeople() {
        JuniorPews x = new JuniorPews();
        x.sundays(3);
        x.image();
        x.sundays(4);
        due.is("restore", x.restore(), true);
        due.is("the Sunday", x.count(2), 3);
        due.is("undo", x.undo(), 0);
        due.is("the Sunday at first", x.count(2), 0);
    }

    /** 40 ACTS and 8 SEEN are kept in it, all 12 PEOPLE in 12 PEWS. */
    private static void p44_image_of40Acts8SeenAnd12People() {
        JuniorPews x = Tape.chapel(COLUMN);
        for (int i = 1; i <= 44; i++) {
            x.lie(11, i % 28 + 2);
        }
        x.sundays(1);
        for (int i = 0; i < 8; i++) {
            x.see(i, i, i);
        }
        x.image();
        for (int i = 0; i < 40; i++) {
            x.undo();
        }
        x.forget();
        for (int i = 1; i <= 50; i++) {
            x.lie(0, 9 + i % 2);
        }
        due.is("restore", x.restore(), true);
        due.are("count 9, 10", i -> x.count(9 + i), 40, 8);
        due.is("the last one's pew", x.person(11, 0), 11);
        due.is("the last one's age", x.person(11, 2), 44 % 28 + 2);
        for (int i = 39; i >= 0; i--) {
            due.is("undo to " + i, x.undo(), i);
        }
        due.is("no more", x.undo(), -1);
        // 45 acts: the first five are gone
        due.is("age then", x.person(11, 2), 5 + 2);
        due.is("the first one's age", x.person(0, 2), 1);
    }

    /* ---- promise 45 ---- */

    /** "False: there is none": at first, behind a chapel(); it is no refusal and changes nothing. */
    private static void p45_restore_falseIfThereIsNone() {
        JuniorPews x = Tape.chapel("person 7;");
        x.lie(0, 8);
        x.see(0, 0, 0);
        due.is("restore", x.restore(), false);
        due.are("count", x::count, 1, 12, 0, 0, 0, 1, 0, 0, 0, 1, 1, 0, 0, 0, 0);
        due.is("age", x.person(0, 2), 8);
        x.image();
        Tape.tell(x, "person 7;");
        due.is("behind a chapel", x.restore(), false);
        x.image();
        due.is("an image anew", x.restore(), true);
        x.image();
        Tape.tell(x, "?");
        due.is("behind a fault it stays", x.restore(), true);
    }

    /** It can be restored again and again. */
    private static void p45_restore_theImageStays() {
        JuniorPews x = Tape.chapel("person 7;");
        x.image();
        for (int i = 0; i < 3; i++) {
            x.lie(0, 8);
            due.is("restore", x.restore(), true);
            due.are("count 9, age", k -> k == 0 ? x.count(9) : x.person(0, 2), 0, 7);
        }
    }

    /** STATUS, the tape and fault() aren't of the image. */
    private static void p45_restore_statusTapeAndFaultStay() {
        JuniorPews x = Twins.lived();
        due.is("restore", x.restore(), true);
        due.are("tape, status", i -> x.count(11 + i), 20, 1, 1, 1);
        due.is("fault", x.fault(), 9);
        due.are("acts, seen", i -> x.count(9 + i), 3, 1);
    }

    /** Restoring is no ACT: the ACTS are the image's. */
    private static void p45_restore_isNoAct() {
        JuniorPews x = Tape.chapel("person 7;");
        x.image();
        x.lie(0, 8);
        x.restore();
        due.is("acts", x.count(9), 0);
        due.is("undo", x.undo(), -1);
    }

    /** All that the image keeps is so again: the SUNDAY, who sits where, AGES, PUT OUT, AWAY, BARRED, ACTS, SEEN. */
    private static void p45_restore_allThatItKeeps() {
        JuniorPews x = livedWithImage();
        x.sundays(20);
        x.leave(0);
        x.come(0);
        x.leave(3);
        x.swap(1, 2);
        x.lie(2, 29);
        x.bar(0, 9);
        x.see(2, 0, 0);
        due.is("restore", x.restore(), true);
        Twins.compare(due, "restore()", x, livedWithImage(), Map.of());
        JuniorPews z = livedWithImage();
        for (int i = 0; i < 5; i++) {
            z.undo();
        }
        z.forget();
        due.is("restore behind undo", z.restore(), true);
        Twins.compare(due, "restore() behind undo", z, livedWithImage(), Map.of());
    }

    /** What was SEEN is as the image again, not only how much: PERSON, SUNDAYS and PEW of each. */
    private static void p45_restore_whatWasSeen() {
        JuniorPews x = Tape.chapel("person 9;person 5;");
        x.see(0, 1, 1);
        x.see(1, 2, 0);
        x.image();
        x.forget();
        x.see(1, 1, 1);
        x.see(0, 0, 0);
        due.are("others", x::old, 0, -1, 0);
        x.restore();
        due.are("as the image", x::old, 31, 6, 1);
        due.is("how much", x.count(10), 2);
        x.forget();
        x.see(1, 1, 0);
        x.see(1, 1, 0);
        x.restore();
        due.are("as the image again", x::old, 31, 6, 1);
    }

    /** The 8th that was SEEN is as the image again, as the first seven. */
    private static void p45_restore_the8thThatWasSeen() {
        JuniorPews x = Tape.chapel("person 9;person 5;sulks sunday=2;");
        for (int i = 0; i < 8; i++) {
            x.see(0, 1, 1);
        }
        x.image();
        x.forget();
        for (int i = 0; i < 8; i++) {
            x.see(1, 3, 0);
        }
        due.is("others", x.old(2), 0);
        x.restore();
        due.is("as the image", x.old(2), 1);
    }

    /** All 12 sit in their PEWS as the image, the last one, too. */
    private static void p45_restore_the12thSitsAgain() {
        JuniorPews x = after(COLUMN);
        x.image();
        x.leave(11);
        x.leave(0);
        x.restore();
        due.are("pew 11", w -> x.pew(11, w), 1, 2048, 11, 11, 1);
        due.is("pew 0", x.pew(0, 2), 0);
    }

    /** What only SUNDAYS bring goes on from the image then, and from what an ACT was undone to. */
    private static void p45_restore_whatSundaysBringThen() {
        JuniorPews x = Tape.chapel("person 9;person 5;");
        x.image();
        x.bar(0, 9);
        due.is("barred", x.then(0, 1, 0), -1);
        x.restore();
        due.is("restored", x.then(0, 1, 0), 1);
        x.bar(0, 9);
        due.is("barred again", x.then(0, 1, 0), -1);
        x.undo();
        due.is("undone", x.then(0, 1, 0), 1);
        Tape.tell(x, "person 3;");
        due.is("a chapel", x.then(0, 1, 0), 0);
    }

    private static JuniorPews livedWithImage() {
        JuniorPews y = Twins.lived();
        y.image();
        return y;
    }
}
