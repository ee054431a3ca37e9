import java.util.function.Supplier;

/** The boundary cases of promises 31 to 37, 42 and 43, each sentence's in a method of its own. */
public final class BoundsOfGuessTest {
    private static final Due due = new Due();
    private static final int LEAST = Integer.MIN_VALUE;
    private static final int GREATEST = Integer.MAX_VALUE;
    private static final String TWELVE = "person 1;".repeat(12);
    private static final String COLUMN = TWELVE + "seats 1;";
    private static final String YOUNGER = "person 12;person 11;person 10;person 9;person 8;person 7;person 6;person 5;"
        + "person 4;person 3;person 2;person 1;";
    /** 0 is PUT OUT by 1, on each SUNDAY that both come. */
    private static final String TWO = "person 9;person 5;";
    private static final int[] NO_PEOPLE = {-1, 4, 12, LEAST, GREATEST};

    public static void main(String[] args) throws IllegalAccessException {
        Cases.runAll(BoundsOfGuessTest.class, due);
    }

    /* ---- promise 31 ---- */

    /** "not 0 to 20": 0 and 20 are taken, -1 and 21 aren't. */
    private static void p31_see_0And20SundaysAreTakenAndMinus1And21AreNot() {
        JuniorPews x = Tape.chapel(TWO);
        due.is("0", x.see(0, 0, 0), 1);
        due.is("20", x.see(0, 20, 0), 2);
        for (int sundays : new int[] {-1, 21, LEAST, GREATEST}) {
            Twins.refuses(due, "see(0, " + sundays + ", 0)", 14, y -> y.see(0, sundays, 0));
        }
    }

    /** "not 0 to 11": PEW 0 and 11 are taken, -1 and 12 aren't. */
    private static void p31_see_pew0And11AreTakenAndMinus1And12AreNot() {
        JuniorPews x = Tape.chapel(TWO);
        due.is("0", x.see(0, 1, 0), 1);
        due.is("11", x.see(0, 1, 11), 2);
        for (int pew : new int[] {-1, 12, LEAST, GREATEST}) {
            Twins.refuses(due, "see(0, 1, " + pew + ")", 14, y -> y.see(0, 1, pew));
        }
    }

    private static JuniorPews livedWithSeen(int many) {
        JuniorPews x = Twins.lived();
        for (int i = x.count(10); i < many; i++) {
            x.see(0, i, 2);
        }
        return x;
    }

    /** "there are 8": the 8th is taken, the 9th isn't; one more is, when all are forgotten. */
    private static void p31_see_the8thIsTakenAndThe9thIsNot() {
        due.is("the 8th", livedWithSeen(7).see(0, 0, 0), 8);
        Supplier<JuniorPews> full = () -> livedWithSeen(8);
        Twins.refuses(due, "the 9th", 14, full, x -> x.see(0, 0, 0));
        Twins.refuses(due, "the 9th, not as told", 14, full, x -> x.see(0, 21, 12));
        JuniorPews x = full.get();
        x.forget();
        due.is("the first again", x.see(0, 0, 0), 1);
        JuniorPews y = full.get();
        y.restore();
        due.is("behind the image", y.see(0, 0, 0), 2);
    }

    /** The same one may be SEEN twice, and what can't both be. */
    private static void p31_see_theSameTwice() {
        JuniorPews x = Tape.chapel(TWO);
        due.is("once", x.see(0, 1, 1), 1);
        due.is("twice", x.see(0, 1, 1), 2);
        due.is("so", x.old(2), 1);
        due.is("another pew", x.see(0, 1, 0), 3);
        due.is("not so", x.old(2), 0);
    }

    /** "NoSuchElementException (ahead): no such PERSON": also if there are 8, and if the others aren't as told. */
    private static void p31_see_noSuchPersonAhead() {
        for (int p : NO_PEOPLE) {
            Twins.noSuch(due, "see(" + p + ", 0, 0)", x -> x.see(p, 0, 0));
            Twins.noSuch(due, "see(" + p + ", 21, 12)", x -> x.see(p, 21, 12));
        }
        JuniorPews x = livedWithSeen(8);
        due.noSuch("there are 8", () -> x.see(4, 0, 0));
        due.is("status 2", x.count(14), 1);
    }

    /** It is no ACT. */
    private static void p31_see_isNoAct() {
        JuniorPews x = Tape.chapel(TWO);
        x.see(0, 0, 0);
        due.is("acts", x.count(9), 0);
        x.see(0, 21, 0);
        due.is("status 1", x.count(13), 0);
    }

    /* ---- promise 32 ---- */

    /** "All that is SEEN is forgotten": 8, 1, none. */
    private static void p32_forget_of8Of1AndOfNone() {
        for (int many : new int[] {8, 1, 0}) {
            JuniorPews x = Tape.chapel(TWO);
            for (int i = 0; i < many; i++) {
                x.see(0, 0, 11);
            }
            due.is("so, of " + many, x.old(2), many == 0 ? 1 : 0);
            x.forget();
            due.is("seen, of " + many, x.count(10), 0);
            due.are("old, of " + many, x::old, 58, 0, 1);
        }
    }

    /** Nothing else changes: ACTS, the image with what it has SEEN, STATUS. */
    private static void p32_forget_nothingElseChanges() {
        JuniorPews x = Twins.lived();
        x.forget();
        due.are("count", x::count, 4, 2, 2, 3, 7, 7, 3, 6, 7, 5, 0, 20, 1, 1, 1);
        due.is("restore", x.restore(), true);
        due.is("what the image has seen", x.count(10), 1);
    }

    /* ---- promise 33 ---- */

    /** None is SEEN: all PEOPLE and AGES, 29 of each, from AGE 0 on; without PEOPLE none. */
    private static void p33_old_ifNoneIsSeen() {
        due.are("without people", new JuniorPews()::old, 0, -1, 1);
        due.are("one", Tape.chapel("person 5;")::old, 29, 0, 1);
        due.are("12", Tape.chapel(TWELVE)::old, 348, 0, 1);
        due.are("one of 0", Tape.chapel("person 0;")::old, 29, 1, 1);
        due.are("one of 29", Tape.chapel("person 29;")::old, 29, 0, 1);
    }

    /** "AGES (0 to 29, another one than one has)": 0 and 29 are among them, what one has isn't. */
    private static void p33_old_age0And29AreAndOnesOwnIsNot() {
        JuniorPews x = Tape.chapel("person 5;sulks not(age=0 or age=29 or age=5);");
        x.see(0, 1, 0);
        due.are("0 and 29", x::old, 2, 0, 1);
        x.lie(0, 0);
        due.are("5 and 29", x::old, 2, 5, 1);
        x.lie(0, 29);
        due.are("0 and 5", x::old, 2, 0, 1);
        JuniorPews y = Tape.chapel("person 5;sulks age<29;");
        y.see(0, 1, 0);
        due.are("29 alone", y::old, 1, 29, 0);
    }

    /** "the first (100 by who, and AGE)": of the 12th. */
    private static void p33_old_theFirstOfThe12th() {
        JuniorPews x = Tape.chapel(TWELVE + "sulks 0<age and not sunday=0;");
        // only the 12th one at AGE 0 comes on the second Sunday
        x.see(11, 2, 0);
        due.are("old", x::old, 1, 1100, 0);
    }

    /** "(1; NONE: none)": no AGE of anybody does. */
    private static void p33_old_noneIfItCantBe() {
        JuniorPews x = Tape.chapel(TWO);
        x.see(0, 1, 11);
        due.are("pew 11 of two", x::old, 0, -1, 0);
        JuniorPews y = Tape.chapel(TWO);
        y.see(0, 0, 0);
        due.are("nowhere now is no pew 0", y::old, 0, -1, 0);
    }

    /** "behind so many SUNDAYS (0 to 20)": 0 is now, 20 the last. */
    private static void p33_old_behind0And20Sundays() {
        JuniorPews x = Tape.chapel("person 5;sulks not sunday=19;");
        x.see(0, 20, 0);
        due.are("20", x::old, 29, 0, 1);
        JuniorPews y = Tape.chapel("person 5;sulks not sunday=18;");
        y.see(0, 20, 0);
        due.are("19 isn't 20", y::old, 0, -1, 0);
        JuniorPews z = Tape.chapel("person 5;sulks 1;");
        z.come(0);
        z.see(0, 0, 0);
        due.are("now", z::old, 29, 0, 1);
    }

    /** "behind so many SUNDAYS": 0 of the 12th, who sits in PEW 11 now. */
    private static void p33_old_the12thBehind0() {
        JuniorPews x = Tape.chapel(COLUMN);
        x.sundays(1);
        x.see(11, 0, 11);
        due.are("as now", x::old, 348, 0, 1);
        x.see(11, 0, 10);
        due.are("not as now", x::old, 0, -1, 0);
    }

    /** All of 8 that are SEEN count, the first and the last one. */
    private static void p33_old_all8Count() {
        for (int wrong = 0; wrong <= 8; wrong++) {
            JuniorPews x = Tape.chapel("person 5;");
            for (int i = 0; i < 8; i++) {
                x.see(0, 1 + i, i == wrong ? 1 : 0);
            }
            due.are("the wrong one is " + wrong, x::old, wrong == 8 ? 29 : 0, wrong == 8 ? 0 : -1, wrong == 8 ? 1 : 0);
        }
    }

    /** "NoSuchElementException: another what": 0 and 2 are taken, -1 and 3 aren't. */
    private static void p33_old_what0And2AreTakenAndMinus1And3AreNot() {
        for (int what : new int[] {-1, 3, LEAST, GREATEST}) {
            Twins.noSuch(due, "old(" + what + ")", x -> x.old(what));
        }
        for (int what = 0; what <= 2; what++) {
            int asked = what;
            Twins.asks(due, "old(" + what + ")", x -> x.old(asked));
        }
    }

    /* ---- promise 34 ---- */

    /** "none without any": without PEOPLE, or if no AGE does. */
    private static void p34_look_noneWithoutAny() {
        due.are("without people", new JuniorPews()::look, -1, 0);
        JuniorPews x = Tape.chapel(TWO);
        x.see(0, 1, 11);
        due.are("it can't be", x::look, -1, 0);
        x.forget();
        due.are("nothing is seen", x::look, 0, 2);
        due.are("asked again", x::look, 0, 2);
        x.see(0, 4, 1);
        x.see(1, 4, 0);
        due.are("both are seen there", x::look, 0, 1);
        x.see(0, 4, 0);
        due.are("it can't be then", x::look, -1, 0);
    }

    /** By AGE 0 alone, and by 29 alone, it is one PEW. */
    private static void p34_look_byAge0Or29Alone() {
        JuniorPews x = Tape.chapel("person 5;sulks 0<age;");
        x.see(0, 1, 0);
        due.are("0", x::look, 0, 1);
        JuniorPews y = Tape.chapel("person 5;sulks age<29;");
        y.see(0, 1, 0);
        due.are("29", y::look, 0, 1);
    }

    /** By an AGE of the 12th alone it is one PEW of each: all others are nowhere behind 4. */
    private static void p34_look_byThe12thAlone() {
        JuniorPews x = Tape.chapel(TWELVE + "sulks 0<age and not sunday=0;");
        x.see(11, 2, 0);
        due.are("look", x::look, 0, 1);
    }

    /** "nowhere is one, too": one who never comes sits in one unlike PEW; "of like ones the least". */
    private static void p34_look_nowhereIsOneToo() {
        due.are("never", Tape.chapel("person 5;sulks 1;")::look, 0, 1);
        due.are("at some ages", Tape.chapel("person 5;sulks 20<age;")::look, 0, 2);
        due.are("of like ones", Tape.chapel("person 5;person 5;sulks 1;")::look, 0, 1);
        due.are("the other one", Tape.chapel("person 5;person 6;sulks 6<age;seats 1;minds 0;")::look, 1, 3);
    }

    /** "behind 4 SUNDAYS": the 4th counts, neither the third nor the fifth. */
    private static void p34_look_behind4Sundays() {
        due.are("on the third", Tape.chapel("person 5;sulks sunday=2 and age<9;")::look, 0, 1);
        due.are("on the 4th", Tape.chapel("person 5;sulks sunday=3 and age<9;")::look, 0, 2);
        due.are("on the fifth", Tape.chapel("person 5;sulks sunday=4 and age<9;")::look, 0, 1);
    }

    /** "most unlike PEWS": 13 at most, with nowhere: 12 of one who may sit in any. */
    private static void p34_look_12And13Pews() {
        // ORDER is by AGE, so that 0 may sit in any PEW of the column, and at 29 in none
        String column = "person 15;person 2;person 4;person 6;person 8;person 10;person 12;person 14;person 16;person 18;"
            + "person 20;person 22;seats 1;minds 0;arrives age;";
        due.are("12", Tape.chapel(column)::look, 0, 12);
        due.are("13", Tape.chapel(column + "sulks age=29;")::look, 0, 13);
    }

    /** "NoSuchElementException: another what": 0 and 1 are taken, -1 and 2 aren't. */
    private static void p34_look_what0And1AreTakenAndMinus1And2AreNot() {
        for (int what : new int[] {-1, 2, LEAST, GREATEST}) {
            Twins.noSuch(due, "look(" + what + ")", x -> x.look(what));
        }
        Twins.asks(due, "look(0)", x -> x.look(0));
        Twins.asks(due, "look(1)", x -> x.look(1));
    }

    /* ---- promise 35 ---- */

    /** "so many SUNDAYS (1 to 5)": 1 and 5 are taken, 0 and 6 aren't. */
    private static void p35_rain_1And5SundaysAreTakenAnd0And6AreNot() {
        JuniorPews x = Tape.chapel("person 15;");
        due.is("1", x.rain(0, 1, 3), 7);
        due.is("5", x.rain(0, 5, 3), 70000);
        for (int sundays : new int[] {0, 6, -1, LEAST, GREATEST}) {
            Twins.illegal(due, "rain(0, " + sundays + ", 5)", y -> y.rain(0, sundays, 5));
        }
        Twins.asks(due, "rain(0, 5, 5)", y -> y.rain(0, 5, 5));
    }

    /** "so many tenths (0 to 10)": 0 and 10 are taken, -1 and 11 aren't. */
    private static void p35_rain_0And10TenthsAreTakenAndMinus1And11AreNot() {
        JuniorPews x = Tape.chapel("person 15;");
        due.is("0", x.rain(0, 1, 0), 10);
        due.is("10", x.rain(0, 1, 10), 0);
        due.is("0 on 5", x.rain(0, 5, 0), 100000);
        due.is("10 on 5", x.rain(0, 5, 10), 0);
        for (int tenths : new int[] {-1, 11, LEAST, GREATEST}) {
            Twins.illegal(due, "rain(0, 1, " + tenths + ")", y -> y.rain(0, 1, tenths));
        }
    }

    /** "whose AGE is 15 or more doesn't come on it": 15 doesn't, 14 does. */
    private static void p35_rain_15DoesntComeAnd14Does() {
        JuniorPews x = Tape.chapel("person 15;person 14;minds 0;");
        due.is("15", x.rain(0, 1, 10), 0);
        due.is("14", x.rain(1, 1, 10), 10);
        JuniorPews z = Tape.chapel("person 14;".repeat(10) + "person 15;person 14;minds 0;");
        due.is("15 of the 11th", z.rain(10, 1, 10), 0);
        due.is("14 of the 12th", z.rain(11, 1, 10), 10);
        JuniorPews y = Tape.chapel("person 29;person 0;minds 0;");
        due.is("29", y.rain(0, 1, 10), 0);
        due.is("0", y.rain(1, 1, 10), 10);
    }

    /** "how likely one sits in PEW 0 behind them": the last SUNDAY alone counts, and those before by what they bring. */
    private static void p35_rain_behindThem() {
        JuniorPews x = Tape.chapel("person 20;sulks 0<away and sunday=4;");
        // on the fifth one comes, if it was dry on it and on the one before
        due.is("rain", x.rain(0, 5, 4), 36000);
        JuniorPews y = Tape.chapel("person 20;");
        y.bar(0, 5);
        due.is("barred for 5", y.rain(0, 5, 0), 0);
        y.bar(0, 4);
        due.is("barred for 4", y.rain(0, 5, 0), 100000);
    }

    /** "as so many of 10 to the power of these SUNDAYS": the least is 1 of 100,000, the next 9 times 9 .. of them. */
    private static void p35_rain_1Of100000() {
        // who was away once stays away: it must be dry on all five
        JuniorPews x = Tape.chapel("person 15;sulks 0<away;");
        due.is("a tenth, five times", x.rain(0, 5, 9), 1);
        due.is("nine tenths, five times", x.rain(0, 5, 1), 59049);
        due.is("a tenth, once", x.rain(0, 1, 9), 1);
    }

    /** It rains by rain() alone: who is 15 or more would come, by all other questions. */
    private static void p35_rain_noOtherQuestionKnowsIt() {
        JuniorPews x = Tape.chapel("person 29;person 20;");
        x.rain(0, 5, 10);
        due.is("who would come", x.count(5), 3);
        due.are("order", x::order, 0, 1, -1);
        due.is("longest", x.longest(-1), 1);
        due.is("longest, the first", x.longest(0), 0);
        due.are("to come", w -> x.toCome(0, w), 1, 0);
        due.is("whose", x.whose(0), 1);
        due.is("to bar", x.toBar(), 0);
        due.is("put by", x.putBy(0, 1, 1), 1);
        due.is("then", x.then(0, 1, 0), 1);
        JuniorPews y = Tape.chapel("person 20;".repeat(12) + "seats 1;");
        due.are("game", w -> y.game(10, 11, w), 1, 11);
    }

    /** "IllegalArgumentException (behind NoSuchElementException)". */
    private static void p35_rain_noSuchElementAheadOfIllegalArgument() {
        for (int p : NO_PEOPLE) {
            Twins.noSuch(due, "rain(" + p + ", 1, 0)", x -> x.rain(p, 1, 0));
            Twins.noSuch(due, "rain(" + p + ", 0, 0)", x -> x.rain(p, 0, 0));
            Twins.noSuch(due, "rain(" + p + ", 1, 11)", x -> x.rain(p, 1, 11));
        }
    }

    /* ---- promise 36 ---- */

    /** "both are one". */
    private static void p36_game_illegalIfBothAreOne() {
        for (int p = 0; p < 4; p++) {
            int one = p;
            Twins.illegal(due, "game(" + p + ", " + p + ", 0)", x -> x.game(one, one, 0));
            Twins.illegal(due, "game(" + p + ", " + p + ", 1)", x -> x.game(one, one, 1));
        }
    }

    /** "NoSuchElementException: also another what": 0 and 1 are taken, -1 and 2 aren't; ahead of "both are one". */
    private static void p36_game_noSuchElementAheadOfIllegalArgument() {
        for (int what : new int[] {-1, 2, LEAST, GREATEST}) {
            Twins.noSuch(due, "game(0, 1, " + what + ")", x -> x.game(0, 1, what));
            Twins.noSuch(due, "game(1, 1, " + what + ")", x -> x.game(1, 1, what));
        }
        for (int p : NO_PEOPLE) {
            Twins.noSuch(due, "game(" + p + ", 0, 0)", x -> x.game(p, 0, 0));
            Twins.noSuch(due, "game(0, " + p + ", 0)", x -> x.game(0, p, 0));
            Twins.noSuch(due, "game(" + p + ", " + p + ", 0)", x -> x.game(p, p, 0));
        }
        Twins.asks(due, "game(0, 1, 0)", x -> x.game(0, 1, 0));
        Twins.asks(due, "game(0, 1, 1)", x -> x.game(0, 1, 1));
    }

    /** "(1; NONE: none)": no couple RESTS. */
    private static void p36_game_noneIfNoCoupleRests() {
        JuniorPews x = Tape.chapel("person 5;person 5;person 5;minds seat=1;");
        // by 00 the gains are 12, 10, by 01 10, 11, by 11 11, 9, by 10 11, 10
        due.are("none rests", w -> x.game(0, 1, w), 0, -1);
        due.are("none rests, the other way round", w -> x.game(1, 0, w), 0, -1);
    }

    /** "0: one sits nowhere", and "1 by the choice to be EARLY, would one come or not": nobody would come. */
    private static void p36_game_oneWhoWouldntComeLosesByTheChoice() {
        JuniorPews x = Tape.chapel("person 3;person 3;sulks 1;");
        due.are("both sulk", w -> x.game(0, 1, w), 1, 0);
        JuniorPews y = Tape.chapel("person 3;person 3;person 3;seats 1;");
        y.bar(2, 1);
        // 0 is in front already, 2 is barred
        due.are("one is barred", w -> y.game(0, 2, w), 1, 0);
        // 1 gains as much by being early: 12 less 1, and 11
        due.are("the other one gains as much", w -> y.game(2, 1, w), 2, 0);
    }

    /** "if neither gains more by the other choice": as much is not more. */
    private static void p36_game_asMuchIsNotMore() {
        JuniorPews x = Tape.chapel("person 3;person 3;seats 1;");
        // 0 is in front and loses by being early; 1 gains 11, and by being early alone 12 less 1
        due.are("11 and 11", w -> x.game(0, 1, w), 2, 0);
        due.are("the other way round", w -> x.game(1, 0, w), 2, 0);
    }

    /** "12 less one's PEW": 12 in PEW 0, 1 in PEW 11. */
    private static void p36_game_thePews0And11() {
        JuniorPews x = Tape.chapel(COLUMN);
        // 11 gains 1, and 11 by being early, as 10 gains 2 and 11; both early: 10 has 11, 11 has 10
        due.are("both come early", w -> x.game(10, 11, w), 1, 11);
    }

    /** "the lesser of both first", whichever is told first; "10 by the first one's and the other one's". */
    private static void p36_game_theLesserOfBothFirst() {
        JuniorPews x = Tape.chapel("person 3;person 3;person 3;seats 1;");
        // the gains of 1, 2 by 00 are 11, 10, by 01 10, 11, by 10 11, 10, by 11 11, 10
        due.are("1 and 2", w -> x.game(1, 2, w), 2, 10);
        due.are("2 and 1", w -> x.game(2, 1, w), 2, 1);
    }

    /* ---- promise 37 ---- */

    /** "n SUNDAYS (0 to 100)": 0 and 100 are taken, -1 and 101 aren't. */
    private static void p37_years_0And100AreTakenAndMinus1And101AreNot() {
        JuniorPews x = Tape.chapel("person 5;sulks not sunday=99;");
        due.is("0", x.years(0, 0, 2), 0);
        due.are("the 99th", w -> x.years(seedOfNoBar(), 99, w), 0, 0, 0);
        due.are("the 100th", w -> x.years(seedOfNoBar(), 100, w), 0, 1, 1);
        for (int n : new int[] {-1, 101, LEAST, GREATEST}) {
            Twins.illegal(due, "years(5, " + n + ", 0)", y -> y.years(5, n, 0));
        }
        for (int what = 0; what <= 2; what++) {
            int asked = what;
            Twins.asks(due, "years(5, 100, " + what + ")", y -> y.years(5, 100, asked));
        }
    }

    /** One by which nobody is BARRED ahead of the 100th SUNDAY, of one PERSON. */
    private static int seedOfNoBar() {
        for (int seed = 0; seed < 100; seed++) {
            long drawn = seed;
            long act = 0;
            for (int k = 0; k < 100; k++) {
                drawn = next(drawn);
                act = drawn / 65536 % 32768 % 5;
                // the draws of who and of AGE
                drawn = act < 2 ? next(drawn) : drawn;
                drawn = act == 1 ? next(drawn) : drawn;
            }
            if (act > 0) {
                return seed;
            }
        }
        return 0;
    }

    /** 0 SUNDAYS: nobody is PUT OUT on them, PEWS and who sits in PEW 0 as now. */
    private static void p37_years_0SundaysAreAsNow() {
        due.are("lived", w -> Twins.lived().years(5, 0, w), 0, 3, 4);
        due.are("nobody sits", w -> Tape.chapel(TWO).years(5, 0, w), 0, 0, 0);
    }

    /** "NoSuchElementException: another what": 0 and 2 are taken, -1 and 3 aren't; ahead of n. */
    private static void p37_years_what0And2AreTakenAndMinus1And3AreNot() {
        for (int what : new int[] {-1, 3, LEAST, GREATEST}) {
            Twins.noSuch(due, "years(5, 1, " + what + ")", x -> x.years(5, 1, what));
            Twins.noSuch(due, "years(5, 101, " + what + ")", x -> x.years(5, 101, what));
        }
    }

    /** "(Without PEOPLE the DRAWS of 5 alone.)": none is drawn of nobody, by any seed. */
    private static void p37_years_withoutPeople() {
        for (int seed : new int[] {0, 1, -1, LEAST, GREATEST, 5, 77777}) {
            due.are("seed " + seed, w -> new JuniorPews().years(seed, 100, w), 0, 0, 0);
        }
    }

    /** A seed "(an int that wraps)", "bits 16 to 30 MOD n": written out in longs, from the least to the greatest seed. */
    private static void p37_years_byTheLeastAndTheGreatestSeed() {
        for (int seed : new int[] {0, 1, -1, LEAST, LEAST + 1, GREATEST, GREATEST - 1, 65536, -65536, 32768 * 65536}) {
            for (String text : new String[] {"person 9;person 5;person 14;person 1;", YOUNGER, "person 3;"}) {
                byDraws(text, seed, 60);
            }
        }
    }

    private static void byDraws(String text, int seed, int n) {
        JuniorPews x = Tape.chapel(text);
        JuniorPews y = Tape.chapel(text);
        int people = x.count(0);
        long drawn = seed & 0xffffffffL;
        int times = 0;
        for (int k = 0; k < n; k++) {
            drawn = next(drawn);
            long act = drawn / 65536 % 32768 % 5;
            if (act < 2) {
                drawn = next(drawn);
                int person = (int) (drawn / 65536 % 32768 % people);
                if (act == 0) {
                    y.bar(person, 1);
                } else {
                    drawn = next(drawn);
                    y.lie(person, (int) (drawn / 65536 % 32768 % 30));
                }
            }
            y.sundays(1);
            times += y.count(6);
        }
        due.are("years by " + seed, w -> x.years(seed, n, w), times, y.count(3), y.size(0, 0) == 0 ? 0 : y.pew(0, 1));
    }

    /** The seed's next one, of 0 to 2 to the power of 32 less 1. */
    private static long next(long seed) {
        return (seed * 1103515245L + 12345L) & 0xffffffffL;
    }

    /** "is BARRED for 1 SUNDAY": in place of what is left, also of 9. */
    private static void p37_years_barredFor1InPlaceOfWhatIsLeft() {
        JuniorPews x = Tape.chapel("person 3;");
        x.bar(0, 9);
        boolean cameEarly = false;
        for (int seed = 0; seed < 400 && !cameEarly; seed++) {
            long first = next(seed);
            long second = next(next(first));
            // barred by the first draw, nothing by the second one: comes on the second Sunday
            if (first / 65536 % 32768 % 5 == 0 && second / 65536 % 32768 % 5 > 1) {
                due.is("the first Sunday", x.years(seed, 1, 2), 0);
                due.is("the second Sunday", x.years(seed, 2, 2), 1);
                cameEarly = true;
            }
        }
        due.is("there was such a seed", cameEarly, true);
    }

    /* ---- promise 42 ---- */

    /** "not 1 to 100": 1 and 100 are taken, 0 and 101 aren't. */
    private static void p42_toLie_1And100AreTakenAnd0And101AreNot() {
        JuniorPews x = Tape.chapel("person 5;sulks not sunday=99 or age<7;");
        due.are("1", w -> x.toLie(0, 1, w), 0, 0);
        due.are("99", w -> x.toLie(0, 99, w), 0, 0);
        due.are("100", w -> x.toLie(0, 100, w), 7, 1);
        for (int sundays : new int[] {0, -1, 101, LEAST, GREATEST}) {
            Twins.illegal(due, "toLie(0, " + sundays + ", 0)", y -> y.toLie(0, sundays, 0));
        }
        Twins.asks(due, "toLie(0, 100, 0)", y -> y.toLie(0, 100, 0));
        Twins.asks(due, "toLie(0, 100, 1)", y -> y.toLie(0, 100, 1));
    }

    /** "the AGE (0 to 29)": 0 and 29, and what one has already. */
    private static void p42_toLie_age0And29() {
        due.are("0", w -> Tape.chapel("person 5;sulks 0<age;").toLie(0, 100, w), 0, 100);
        due.are("29", w -> Tape.chapel("person 5;sulks age<29;").toLie(0, 100, w), 29, 100);
        due.are("one's own", w -> Tape.chapel("person 5;sulks not age=5;").toLie(0, 100, w), 5, 100);
        due.are("30 isn't one", w -> Tape.chapel("person 5;sulks age<30;").toLie(0, 100, w), 0, 0);
        due.are("-1 isn't one", w -> Tape.chapel("person 5;sulks 0-1<age;").toLie(0, 100, w), 0, 0);
        // the 12th finds 11 who sit in pews of one: at 0 they mind
        due.are("the 12th", w -> Tape.chapel(COLUMN).toLie(11, 100, w), 0, 100);
        due.are("the 12th at 7 alone", w -> Tape.chapel("person 1;".repeat(11) + "person 29;sulks 1<age and not age=7 or age=0;"
            + "minds theirs=7;seats 1;").toLie(11, 100, w), 7, 100);
    }

    /** "of like ones the least": 0, if none is better, and how many is 0. */
    private static void p42_toLie_0IfNoneIsBetter() {
        due.are("never", w -> Tape.chapel("person 5;sulks 1;").toLie(0, 100, w), 0, 0);
        due.are("ever", w -> Tape.chapel("person 5;").toLie(0, 100, w), 0, 100);
    }

    /** "NoSuchElementException: also another what": 0 and 1 are taken, -1 and 2 aren't; ahead of the SUNDAYS. */
    private static void p42_toLie_noSuchElementAheadOfIllegalArgument() {
        for (int what : new int[] {-1, 2, LEAST, GREATEST}) {
            Twins.noSuch(due, "toLie(0, 1, " + what + ")", x -> x.toLie(0, 1, what));
            Twins.noSuch(due, "toLie(0, 0, " + what + ")", x -> x.toLie(0, 0, what));
        }
        for (int p : NO_PEOPLE) {
            Twins.noSuch(due, "toLie(" + p + ", 1, 0)", x -> x.toLie(p, 1, 0));
            Twins.noSuch(due, "toLie(" + p + ", 101, 0)", x -> x.toLie(p, 101, 0));
        }
    }

    /* ---- promise 43 ---- */

    /** "NONE: none": without PEOPLE, if nobody would come, if nobody is PUT OUT. */
    private static void p43_toBar_noneIfNobodyIsPutOut() {
        due.is("without people", new JuniorPews().toBar(), -1);
        due.is("nobody would come", Tape.chapel(TWO + "sulks 1;").toBar(), -1);
        due.is("one alone", Tape.chapel("person 3;").toBar(), -1);
        due.is("nobody is put out", Tape.chapel(TWELVE).toBar(), -1);
        Twins.asks(due, "toBar()", JuniorPews::toBar);
    }

    /** "if fewer than without": nobody's staying away makes it fewer. */
    private static void p43_toBar_noneIfNotFewer() {
        // 3 puts out the one of the three in SEAT 1; 4 finds 3 there: so it is by any two of three, and by 4 without 3
        JuniorPews x = Tape.chapel("person 9;person 9;person 9;person 1;person 1;minds seat=1 and age=9 and theirs=1;");
        due.is("put out", x.later(1, 2), 1);
        due.is("toBar()", x.toBar(), -1);
    }

    /** "of like ones the least; who would come": the first, not one who is BARRED; the 12th, too. */
    private static void p43_toBar_ofLikeOnesTheLeastAndThe12th() {
        JuniorPews x = Tape.chapel(TWO);
        due.is("0 or 1", x.toBar(), 0);
        x.bar(0, 1);
        due.is("1 alone would come", x.toBar(), -1);
        JuniorPews y = Tape.chapel("person 9;person 9;person 9;person 1;minds theirs<age and seat=1;");
        due.is("one is put out", y.later(1, 2), 1);
        due.is("without 3 nobody is", y.toBar(), 3);
        due.is("the 12th", Tape.chapel("person 9;".repeat(11) + "person 1;minds theirs<age and moved=0;").toBar(), 11);
    }

    /** "fewest": one by whose staying away fewer are counts more than a lesser one by whose they are fewer than without. */
    private static void p43_toBar_fewestAheadOfTheLeast() {
        JuniorPews x = Tape.chapel("person 4;person 1;person 5;person 4;person 3;");
        int[] without = {3, 3, 2, 2, 2};
        due.is("without any", x.later(1, 2), 4);
        for (int p = 0; p < 5; p++) {
            x.bar(p, 1);
            due.is("without " + p, x.later(1, 2), without[p]);
            x.undo();
        }
        due.is("toBar()", x.toBar(), 2);
    }

    /** "on the next SUNDAY alone": how often they were PUT OUT before counts for nothing. */
    private static void p43_toBar_whatWasCountsForNothing() {
        JuniorPews x = Tape.chapel("person 9;person 5;person 3;");
        x.sundays(2);
        // by one of any two of them one is put out
        due.is("of like ones the least", x.toBar(), 0);
        JuniorPews y = Tape.chapel(TWO);
        y.sundays(2);
        y.lie(0, 5);
        due.is("nobody is put out any more", y.toBar(), -1);
    }
}
