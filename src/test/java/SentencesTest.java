/**
 * Sentences of the document that name no boundary, and by whose breach only random runs would have failed: each in a method
 * of its own, named by its promise, with the answers worked out by hand.
 */
public final class SentencesTest {
    /** By one Sunday: pew 0 has 1, 3, 4, pew 1 has 2, pew 2 has 0, and three are put out. */
    private static final String FIVE = "person 20;person 5;person 12;person 8;person 12;";
    /** Without 'arrives' the order would be 0, 1, 2; with it, it is 1, 2, 0. */
    private static final String ELDERS_FIRST = "person 1;person 3;person 3;seats 1;arrives 29-age;";
    private static final Due due = new Due();

    public static void main(String[] args) throws IllegalAccessException {
        Cases.runAll(SentencesTest.class, due);
    }

    /* ---- acts ---- */

    /** "They are UNDONE": 'away' is as it was ahead of the Sundays. */
    private static void p14_undo_awayIsAsItWas() {
        JuniorPews x = Tape.chapel("person 1;person 2;sulks age=1;");
        x.sundays(3);
        due.is("away", x.person(0, 5), 3);
        x.sundays(2);
        x.undo();
        due.is("3 again", x.person(0, 5), 3);
        x.undo();
        due.is("0 again", x.person(0, 5), 0);
        x.bar(1, 1);
        x.sundays(1);
        due.is("the other one", x.person(1, 5), 1);
        x.sundays(1);
        due.is("came", x.person(1, 5), 0);
        x.undo();
        due.is("1 again", x.person(1, 5), 1);
    }

    /** "ACTS (.. the latest ones)": how many Sundays went by in one act counts for nothing. */
    private static void p14_undo_actsOfManySundaysAreOneEach() {
        JuniorPews x = Tape.chapel(FIVE);
        x.sundays(20);
        x.sundays(1);
        x.sundays(7);
        due.is("acts", x.count(9), 3);
        due.is("undo", x.undo(), 2);
        due.is("the Sunday", x.count(2), 21);
        x.undo();
        due.is("the Sunday before", x.count(2), 20);
        x.undo();
        due.is("at first", x.count(2), 0);
    }

    /* ---- what is now goes on ---- */

    /** Who has been away for two Sundays has been so for all that is asked of the next ones. */
    private static JuniorPews awayForTwo() {
        JuniorPews x = Tape.chapel("person 9;person 3;sulks age=9 and away<3;");
        x.sundays(2);
        return x;
    }

    /** "(If only SUNDAYS go by, from now on:)": 'away' counts on from what it is now: 0 comes on the second Sunday. */
    private static void p15_then_awayGoesOn() {
        JuniorPews x = awayForTwo();
        due.are("0 behind 0 to 4", k -> x.then(0, k, 0), -1, -1, 1, -1, -1);
        due.is("comes again behind 6", x.then(0, 6, 0), 1);
        due.is("front of 1", x.front(1, 4), 4);
        due.are("who sits behind 0 to 4", k -> x.later(k, 1), 2, 2, 3, 2, 2);
    }

    /** "BARRED" counts on from what it is now, too. */
    private static void p15_then_barredGoesOn() {
        JuniorPews x = Tape.chapel("person 9;");
        x.bar(0, 4);
        x.sundays(1);
        due.are("0 behind 0 to 4", k -> x.then(0, k, 0), -1, -1, -1, -1, 0);
    }

    /** OLD, LOOK NEXT: what was seen of one who comes by how long one has been away. */
    private static void p33_old_awayGoesOn() {
        JuniorPews x = awayForTwo();
        x.see(0, 2, 1);
        due.is("so without", x.old(2), 1);
        x.see(0, 1, 1);
        due.is("not so", x.old(2), 0);
    }

    /** RAIN: 0 comes on the second Sunday alone, if that is dry. */
    private static void p35_rain_awayGoesOn() {
        JuniorPews x = Tape.chapel("person 19;sulks away<3;");
        x.sundays(2);
        due.is("behind 1", x.rain(0, 1, 3), 0);
        // the second one must be dry; on the first one 0 sulks, rain or not
        due.is("behind 2", x.rain(0, 2, 3), 70);
    }

    /** YEARS by seed 1 draw 3, 3, 3 of 5: nobody is barred, nobody's age is another one on three Sundays. */
    private static void p37_years_awayGoesOn() {
        JuniorPews x = awayForTwo();
        due.are("pews behind 0 to 3", n -> x.years(1, n, 1), 1, 1, 2, 1);
    }

    /** TO LIE: 0 comes on the second Sunday by any age, and on no other one of two. */
    private static void p42_toLie_awayGoesOn() {
        JuniorPews x = Tape.chapel("person 9;sulks away<3;");
        x.sundays(2);
        due.are("on the second of two", w -> x.toLie(0, 2, w), 0, 1);
        due.are("on none of one", w -> x.toLie(0, 1, w), 0, 0);
    }

    /* ---- (now:) ---- */

    /** TOGETHER says "two": one is in one pew with oneself whenever one sits. */
    private static void p22_together_oneWithOneselfWheneverOneSits() {
        JuniorPews x = Tape.chapel("person 3;sulks sunday=1;");
        due.is("on the first", x.together(0, 0, 1), 1);
        due.is("on two of three", x.together(0, 0, 3), 2);
    }

    /** BY ONE MORE, by a rule that MINDS otherwise than by who is older. */
    private static void p25_more_byTheRule() {
        JuniorPews x = Tape.chapel("person 5;person 9;person 7;minds age<theirs;");
        x.come(0);
        due.are("the elder one puts out", w -> x.more(1, w), 1, 1, 1);
        x.come(1);
        // 2 (7) doesn't put out 1 (9)
        due.are("the younger one sits down behind", w -> x.more(2, w), 0, 0, 0);
        JuniorPews y = Tape.chapel("person 5;person 5;person 5;seats 1;minds pew=1;");
        y.come(0);
        y.come(1);
        due.are("put out of the second pew alone", w -> y.more(2, w), 1, 2, 2);
    }

    /** TO COME: "(All by what is so now, who SULKS or is BARRED left out:)". */
    private static void p28_toCome_othersWhoSulkOrAreBarredAreLeftOut() {
        JuniorPews x = Tape.chapel("person 9;person 1;person 1;sulks age=1;");
        due.are("they sulk", w -> x.toCome(0, w), 0, 0);
        JuniorPews y = Tape.chapel("person 9;person 1;person 1;");
        due.are("they come", w -> y.toCome(0, w), 2, 0);
        y.bar(1, 1);
        y.bar(2, 1);
        due.are("they are barred", w -> y.toCome(0, w), 0, 0);
    }

    /** TO COME: "all others as ever", which is by ARRIVES, not by number. */
    private static void p28_toCome_othersComeByArrives() {
        JuniorPews x = Tape.chapel(ELDERS_FIRST);
        // 2, 1, 0: 2 is put out by 0 and goes past 1; 1, 2, 0: 2 stays in pew 1; 1, 0, 2: 2 goes past both
        due.are("2", w -> x.toCome(2, w), 1, 1);
    }

    /** WHOSE: "one's PEW would be least": not the first by whom it would be less. */
    private static void p29_whose_theLeastPewNotTheFirstThatIsLess() {
        JuniorPews x = Tape.chapel("person 20;person 6;person 5;seats 1;arrives age=6;minds theirs=5 or pew=1;");
        // 0 comes, 2 puts it out of pew 0, 1 finds pew 0 full and puts it out of pew 1
        due.is("0 is in pew 2 then", x.then(0, 1, 0), 2);
        // without 1 it is in pew 1, without 2 in pew 0
        due.is("whose", x.whose(0), 2);
    }

    /** WHOSE: those who come do so by ARRIVES. */
    private static void p29_whose_othersComeByArrives() {
        JuniorPews x = Tape.chapel(ELDERS_FIRST);
        // 1, 2, 0: 2 is in pew 1; without 1, 0 puts it out into pew 1; without 0 it is behind 1
        due.is("2", x.whose(2), -1);
        // 1 is put out by 0 and goes past 2; without 0 it is in pew 0, without 2 in pew 1
        due.is("1", x.whose(1), 0);
    }

    /* ---- what is seen, rain, a game ---- */

    /** "all anew": OLD and LOOK NEXT by the PEOPLE of the new text, though they were asked before. */
    private static void p33_old_anewBehindAChapel() {
        JuniorPews x = Tape.chapel(FIVE);
        due.are("old", x::old, 145, 0, 1);
        x.look(0);
        Tape.tell(x, "person 0;person 4;");
        due.are("old anew", x::old, 58, 1, 1);
        due.are("look anew", x::look, 0, 2);
        x.chapel(0);
        due.are("old without people", x::old, 0, -1, 1);
        due.are("look without people", x::look, -1, 0);
    }

    /** OLD: "now all SEEN would be so": the Sundays of what is seen are counted from now, not from when it was seen. */
    private static void p33_old_sundaysAreCountedFromNow() {
        JuniorPews x = Tape.chapel("person 3;sulks sunday=1;");
        x.see(0, 1, 0);
        due.is("behind the first", x.old(2), 1);
        x.sundays(1);
        due.is("on the second 0 sulks", x.old(2), 0);
        x.sundays(1);
        due.is("behind the third", x.old(2), 1);
        x.undo();
        due.is("undone", x.old(2), 0);
    }

    /** RAIN keeps away those of 15 or more; who is BARRED or SULKS stays away in the rain as ever. */
    private static void p35_rain_whoIsBarredOrSulksStaysAway() {
        JuniorPews x = Tape.chapel("person 3;");
        x.bar(0, 1);
        due.is("barred on the first", x.rain(0, 1, 10), 0);
        due.is("barred on the first, half wet", x.rain(0, 1, 5), 0);
        due.is("not on the second", x.rain(0, 2, 10), 100);
        JuniorPews y = Tape.chapel("person 3;sulks sunday=0;");
        due.is("sulks on the first", y.rain(0, 1, 10), 0);
        due.is("not on the second", y.rain(0, 2, 10), 100);
    }

    /** RAIN: those who come in it do so by ARRIVES, and MIND by the rule. */
    private static void p35_rain_byTheRules() {
        JuniorPews x = Tape.chapel("person 3;person 4;person 20;seats 1;arrives 29-age;minds 0;");
        // dry: 2, 1, 0; wet: 1, 0
        due.is("1", x.rain(1, 1, 3), 3);
        due.is("2", x.rain(2, 1, 3), 7);
        due.is("0", x.rain(0, 1, 3), 0);
    }

    /** A GAME: a third one who SULKS or is BARRED doesn't come. */
    private static void p36_game_othersWhoSulkOrAreBarredDontCome() {
        // without 0: 1 in pew 0, 2 in pew 1; 2 gains as much early (12 less 1) as not (11), while 1 isn't
        JuniorPews x = Tape.chapel("person 4;person 5;person 5;seats 1;sulks age=4;minds 0;");
        due.are("0 sulks", w -> x.game(1, 2, w), 2, 0);
        JuniorPews y = Tape.chapel("person 4;person 5;person 5;seats 1;minds 0;");
        // with 0 ahead of both, 2 gains 10, and 11 early
        due.are("0 comes", w -> y.game(1, 2, w), 2, 10);
        y.bar(0, 1);
        due.are("0 is barred", w -> y.game(1, 2, w), 2, 0);
    }

    /** A GAME: who isn't EARLY comes by ARRIVES. */
    private static void p36_game_othersComeByArrives() {
        JuniorPews x = Tape.chapel("person 5;person 5;person 4;seats 1;minds 0;arrives age;");
        // 2, 0, 1: 0 gains 11 and 1 gains 10; 1 early gains 11; then 0 gains 10, and 11 if it is early, too;
        // by 0 early 1 gains 10 either way
        due.are("0 and 1", w -> x.game(0, 1, w), 2, 10);
        due.are("1 and 0", w -> x.game(1, 0, w), 2, 1);
    }

    /* ---- years, forward, to bar ---- */

    /** YEARS: "how often all are PUT OUT on these SUNDAYS": not on those that went by. */
    private static void p37_years_whatWasCountsForNothing() {
        JuniorPews x = Tape.chapel(FIVE);
        due.is("at first", x.years(1, 3, 0), 9);
        x.sundays(2);
        due.is("put out in all", x.count(7), 6);
        due.is("behind two Sundays", x.years(1, 3, 0), 9);
        x.leave(1);
        x.come(1);
        due.is("behind one who came late", x.years(1, 3, 0), 9);
    }

    /** YEARS change nothing: nobody's age is another one, nobody is BARRED. */
    private static void p37_years_nothingChanges() {
        for (int seed = 0; seed < 20; seed++) {
            int of = seed;
            Twins.asks(due, "years by " + seed, x -> x.years(of, 30, 0));
        }
    }

    /** FORWARD: "were AGE another one from now on": on the Sundays between, too. */
    private static void p40_forward_theAgeIsAnotherOneFromNowOn() {
        JuniorPews x = Tape.chapel("person 3;sulks age=5 and away=0;");
        // at 5 one comes on every second Sunday
        due.are("behind 0 to 4", k -> x.forward(0, 5, k), 0, -12, 0, -12, 0);
    }

    /** TO BAR: those who come do so by ARRIVES. */
    private static void p43_toBar_byArrives() {
        // 1, 2, 0: 0 puts out 1
        due.is("elders first", Tape.chapel(ELDERS_FIRST).toBar(), 0);
        due.is("by number", Tape.chapel("person 1;person 3;person 3;seats 1;").toBar(), -1);
    }

    /** TO BAR: who is put out, and how often, is by MINDS. */
    private static void p43_toBar_byMinds() {
        JuniorPews x = Tape.chapel("person 1;person 2;person 3;minds age<theirs;");
        // 1 puts out 0; 2 puts out 1, who puts out 0: three; without any of them one
        due.is("put out", x.later(1, 2), 3);
        due.is("of like ones the least", x.toBar(), 0);
        x.bar(0, 1);
        due.is("of two", x.toBar(), 1);
    }
}
