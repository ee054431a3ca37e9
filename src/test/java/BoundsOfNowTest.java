/** The boundary cases of promises 5 to 7 and 25 to 30, and of how one sits down, each sentence's in a method of its own. */
public final class BoundsOfNowTest {
    private static final Due due = new Due();
    private static final int LEAST = Integer.MIN_VALUE;
    private static final int GREATEST = Integer.MAX_VALUE;
    /** 12 of one age: on a Sunday all sit in PEW 0, by their numbers. */
    private static final String TWELVE = "person 1;".repeat(12);
    /** 12 of one age: on a Sunday each sits in the PEW of one's number. */
    private static final String COLUMN = TWELVE + "seats 1;";
    /** On a Sunday each puts out all who came before: PERSON p sits in PEW 11 - p and was PUT OUT 11 - p times. */
    private static final String YOUNGER = "person 12;person 11;person 10;person 9;person 8;person 7;person 6;person 5;"
        + "person 4;person 3;person 2;person 1;";

    public static void main(String[] args) throws IllegalAccessException {
        Cases.runAll(BoundsOfNowTest.class, due);
    }

    private static JuniorPews after(String text) {
        JuniorPews x = Tape.chapel(text);
        x.sundays(1);
        return x;
    }

    /* ---- terms: how one sits down ---- */

    /** "Where nobody sits one has SEAT 0", "At first nobody sits anywhere". */
    private static void terms_sitDown_whereNobodySitsOneHasSeat0() {
        JuniorPews x = Tape.chapel(TWELVE);
        for (int p = 0; p < 12; p++) {
            due.is("nowhere " + p, x.person(p, 0), -1);
        }
        x.come(11);
        due.is("pew", x.person(11, 0), 0);
        due.is("seat", x.person(11, 1), 0);
    }

    /** "if fewer sit there than it has SEATS": the last SEAT is taken, then one goes to the PEW behind. */
    private static void terms_sitDown_aPewIsFullByItsSeats() {
        for (int seats = 1; seats <= 12; seats++) {
            JuniorPews x = after(TWELVE + "seats " + seats + ";");
            for (int p = 0; p < 12; p++) {
                due.is("pew of " + p + " by " + seats, x.person(p, 0), p / seats);
                due.is("seat of " + p + " by " + seats, x.person(p, 1), p % seats);
            }
        }
    }

    /** A full PEW is gone through by one who MINDS: who comes has a SEAT there all the same. */
    private static void terms_sitDown_aFullPewHasASeatOfOneWhoMinds() {
        JuniorPews x = after("person 5;person 9;person 7;seats 2;");
        due.are("pew 0", w -> x.pew(0, w), 2, 5, 0, 2, 12);
        due.are("pew 1", w -> x.pew(1, w), 1, 2, 1, 1, 9);
    }

    /** "SEAT by SEAT, the first one who MINDS": of two the one ahead, SEAT 11 as well. */
    private static void terms_sitDown_theFirstWhoMindsUpToSeat11() {
        JuniorPews x = after("person 9;person 9;person 7;");
        due.is("the first", x.pew(0, 2), 2);
        due.is("the other one stays", x.pew(0, 3), 1);
        JuniorPews y = Tape.chapel("person 1;".repeat(11) + "person 1;minds seat=11;");
        y.sundays(1);
        y.leave(0);
        due.is("11 sit there", y.more(0, 0), 0);
        due.is("none is in seat 11 then", y.come(0), 0);
        y.leave(5);
        y.come(5);
        due.is("seat 11 again", y.person(5, 1), 11);
    }

    /** Of 12 the last one may put out all others: to PEW 11. */
    private static void terms_sitDown_theRowGoesToPew11() {
        JuniorPews x = after(YOUNGER);
        for (int p = 0; p < 12; p++) {
            due.is("pew of " + p, x.person(p, 0), 11 - p);
            due.is("put out " + p, x.person(p, 3), 11 - p);
        }
    }

    /* ---- promise 5 ---- */

    /** "NoSuchElementException: another what": 0 and 14 are taken, -1 and 15 aren't. */
    private static void p05_count_0And14AreTakenAndMinus1And15AreNot() {
        due.is("count(0)", Twins.lived().count(0), 4);
        due.is("count(14)", Twins.lived().count(14), 1);
        for (int what : new int[] {-1, 15, LEAST, GREATEST}) {
            Twins.noSuch(due, "count(" + what + ")", x -> x.count(what));
        }
        for (int what = 0; what <= 14; what++) {
            int asked = what;
            Twins.asks(due, "count(" + what + ")", x -> x.count(asked));
        }
    }

    /** All 12 sit and would come: 12 bits; nobody: none. */
    private static void p05_count_bitsOf12AndOfNobody() {
        JuniorPews x = after(TWELVE);
        due.is("who sits", x.count(4), 4095);
        due.is("who would come", x.count(5), 4095);
        for (int p = 0; p < 12; p++) {
            x.bar(p, 1);
            x.leave(p);
        }
        due.is("nobody sits", x.count(4), 0);
        due.is("nobody would come", x.count(5), 0);
        due.is("no pew", x.count(3), 0);
    }

    /** PEWS that have sitters: 12 at most. */
    private static void p05_count_12PewsHaveSitters() {
        due.is("pews", after(COLUMN).count(3), 12);
        due.is("one pew", after(TWELVE).count(3), 1);
        due.is("none", Tape.chapel(TWELVE).count(3), 0);
    }

    /** "how often all were PUT OUT since the last SUNDAY", "in all": 66 of 12, and 0 on a Sunday on which nobody comes. */
    private static void p05_count_putOutOf12AndOfNobody() {
        JuniorPews x = Tape.chapel(YOUNGER + "sulks sunday=2;");
        x.sundays(2);
        due.is("since", x.count(6), 66);
        due.is("in all", x.count(7), 132);
        x.sundays(1);
        due.is("since, nobody came", x.count(6), 0);
        due.is("in all, nobody came", x.count(7), 132);
    }

    /** The 12th counts, too, where nobody else is PUT OUT. */
    private static void p05_count_putOutOfThe12thAlone() {
        JuniorPews x = after("person 1;".repeat(11) + "person 29;arrives 0-(age=29);");
        due.is("since", x.count(6), 1);
        due.is("in all", x.count(7), 1);
        due.is("its own", x.person(11, 3), 1);
    }

    /** "IN ORDER: PEWS in which no AGE is less than that of the one ahead": like ones, one alone, 12 PEWS; not an empty one. */
    private static void p05_count_inOrderByLikeAgesAloneAndNobody() {
        due.is("12 alone", after(COLUMN).count(8), 4095);
        due.is("12 like ones", after(TWELVE).count(8), 1);
        due.is("nobody", Tape.chapel(TWELVE).count(8), 0);
        JuniorPews x = after(TWELVE);
        x.lie(11, 0);
        due.is("the last one by one less", x.count(8), 0);
        x.lie(11, 2);
        due.is("the last one by one more", x.count(8), 1);
        x.lie(0, 2);
        due.is("the first one by one more", x.count(8), 0);
    }

    /** "ACTS that are kept", "SEEN", "bytes of the tape": none, and the most. */
    private static void p05_count_actsSeenAndBytesFromNoneToTheMost() {
        JuniorPews x = Tape.chapel("person 0;");
        due.are("none", i -> x.count(9 + i), 0, 0, 0);
        for (int i = 1; i <= 41; i++) {
            x.lie(0, i % 2);
        }
        for (int i = 1; i <= 9; i++) {
            x.see(0, 0, 0);
        }
        Tape.feed(x, " ".repeat(720));
        due.are("the most", i -> x.count(9 + i), 40, 8, 700);
    }

    /** STATUS 0 to 2 count each refusal of their kind, and exceptions don't count. */
    private static void p05_count_statusCountsRefusalsAlone() {
        JuniorPews x = Tape.chapel("person 0;");
        x.sundays(0);
        x.leave(0);
        x.lie(0, 0);
        x.bar(0, 0);
        x.swap(0, 0);
        x.see(0, 21, 0);
        x.see(0, 0, 12);
        Tape.tell(x, "?");
        due.are("status", i -> x.count(12 + i), 1, 5, 2);
        due.noSuch("come(1)", () -> x.come(1));
        due.noSuch("see(1, 0, 0)", () -> x.see(1, 0, 0));
        due.illegal("chapel(-1)", () -> x.chapel(-1));
        x.undo();
        x.restore();
        due.are("status as before", i -> x.count(12 + i), 1, 5, 2);
    }

    /* ---- promise 6 ---- */

    /** "no such PERSON": 0 and the last one are taken, -1 and as many as there are aren't. */
    private static void p06_person_theLastOneIsTakenAndOneMoreIsNot() {
        JuniorPews x = Tape.chapel(TWELVE);
        due.is("person(0, 2)", x.person(0, 2), 1);
        due.is("person(11, 2)", x.person(11, 2), 1);
        due.noSuch("person(12, 2)", () -> x.person(12, 2));
        for (int p : new int[] {-1, 4, 12, LEAST, GREATEST}) {
            Twins.noSuch(due, "person(" + p + ", 0)", y -> y.person(p, 0));
        }
        JuniorPews nobody = new JuniorPews();
        due.noSuch("without people", () -> nobody.person(0, 0));
    }

    /** "NoSuchElementException: .. what": 0 and 8 are taken, -1 and 9 aren't. */
    private static void p06_person_what0And8AreTakenAndMinus1And9AreNot() {
        due.is("person(0, 0)", Twins.lived().person(0, 0), 2);
        due.is("person(0, 8)", Twins.lived().person(0, 8), -1);
        for (int what : new int[] {-1, 9, LEAST, GREATEST}) {
            Twins.noSuch(due, "person(0, " + what + ")", x -> x.person(0, what));
        }
        for (int what = 0; what <= 8; what++) {
            int asked = what;
            Twins.asks(due, "person(2, " + what + ")", x -> x.person(2, asked));
        }
    }

    /** "0 the PEW, 1 the SEAT (NONE: nowhere)". */
    private static void p06_person_pewAndSeatAreNoneNowhere() {
        JuniorPews x = Tape.chapel(TWELVE);
        due.are("at first", w -> x.person(0, w), -1, -1);
        x.sundays(1);
        due.are("seat 11", w -> x.person(11, w), 0, 11);
        x.leave(11);
        due.are("left", w -> x.person(11, w), -1, -1);
        JuniorPews y = after(COLUMN);
        due.are("pew 11", w -> y.person(11, w), 11, 0);
    }

    /** "7 as the how manyth one would come (0 the first; NONE)": 11 the last of 12; who SULKS or is BARRED not at all. */
    private static void p06_person_comesAs0To11OrNot() {
        JuniorPews x = Tape.chapel(TWELVE + "arrives 0-1;sulks age=2;");
        due.is("the first", x.person(0, 7), 0);
        due.is("the last", x.person(11, 7), 11);
        x.bar(0, 1);
        due.is("barred", x.person(0, 7), -1);
        x.lie(1, 2);
        due.is("sulks", x.person(1, 7), -1);
        due.is("the last then", x.person(11, 7), 9);
    }

    /** "5 for how many SUNDAYS AWAY, 6 BARRED": 0 at first, 9 to 0, and no less. */
    private static void p06_person_awayAndBarredFrom0() {
        JuniorPews x = Tape.chapel("person 3;");
        due.is("away", x.person(0, 5), 0);
        due.is("barred", x.person(0, 6), 0);
        x.bar(0, 9);
        x.sundays(8);
        due.are("8 went by", i -> x.person(0, 5 + i), 8, 1);
        x.sundays(1);
        due.are("9 went by", i -> x.person(0, 5 + i), 9, 0);
        x.sundays(1);
        due.are("10 went by", i -> x.person(0, 5 + i), 0, 0);
        JuniorPews y = Tape.chapel(TWELVE);
        y.bar(11, 9);
        y.bar(5, 3);
        y.sundays(1);
        due.are("the last of 12", i -> y.person(11, 5 + i), 1, 8);
        due.are("one between", i -> y.person(5, 5 + i), 1, 2);
        due.are("another one", i -> y.person(10, 5 + i), 0, 0);
    }

    /** "8 with whom one is of COUPLES (NONE)": nowhere, alone, the one too many. */
    private static void p06_person_withNobodyNowhereOrAlone() {
        JuniorPews x = Tape.chapel("person 1;person 1;person 1;");
        due.is("nowhere", x.person(0, 8), -1);
        x.come(0);
        due.is("alone", x.person(0, 8), -1);
        x.come(1);
        due.is("two", x.person(0, 8), 1);
        x.come(2);
        due.are("one too many", p -> x.person(p, 8), 1, 0, -1);
    }

    /* ---- promise 7 ---- */

    /** "Of a PEW that has sitters .. no such PEW": the last one is taken, the one behind isn't. */
    private static void p07_pew_theLastWithSittersIsTakenAndOneBehindIsNot() {
        JuniorPews x = after(COLUMN);
        due.is("pew(0, 2)", x.pew(0, 2), 0);
        due.is("pew(11, 2)", x.pew(11, 2), 11);
        due.noSuch("pew(12, 2)", () -> x.pew(12, 2));
        x.leave(0);
        due.noSuch("pew(11, 2) behind one who left", () -> x.pew(11, 2));
        due.is("pew(10, 2)", x.pew(10, 2), 11);
        JuniorPews nobody = new JuniorPews();
        due.noSuch("without people", () -> nobody.pew(0, 0));
        for (int pew : new int[] {-1, 3, 11, 12, LEAST, GREATEST}) {
            Twins.noSuch(due, "pew(" + pew + ", 0)", y -> y.pew(pew, 0));
        }
    }

    /** "NoSuchElementException: .. what": 0 and 4 are taken, -1 and 5 aren't. */
    private static void p07_pew_what0And4AreTakenAndMinus1And5AreNot() {
        due.is("pew(2, 0)", Twins.lived().pew(2, 0), 1);
        due.is("pew(2, 4)", Twins.lived().pew(2, 4), 20);
        for (int what : new int[] {-1, 5, LEAST, GREATEST}) {
            Twins.noSuch(due, "pew(0, " + what + ")", x -> x.pew(0, what));
        }
        for (int what = 0; what <= 4; what++) {
            int asked = what;
            Twins.asks(due, "pew(1, " + what + ")", x -> x.pew(1, asked));
        }
    }

    /** A full PEW of 12, and one of one, who is the first and the last. */
    private static void p07_pew_of12AndOf1() {
        JuniorPews x = after("person 29;".repeat(12));
        due.are("of 12", w -> x.pew(0, w), 12, 4095, 0, 11, 348);
        JuniorPews y = after("person 0;");
        due.are("of 1", w -> y.pew(0, w), 1, 1, 0, 0, 0);
    }

    /* ---- promise 25 ---- */

    /** "NONE for all: one sits already". */
    private static void p25_more_noneForOneWhoSits() {
        JuniorPews x = after(TWELVE);
        due.are("who sits", w -> x.more(11, w), -1, -1, -1);
        x.leave(11);
        due.are("who sits nowhere", w -> x.more(11, w), 0, 0, 0);
        Twins.asks(due, "more(0, 0) of one who sits", y -> y.more(0, 0));
    }

    /** "how many are PUT OUT; who; in which PEW": nobody, where nobody sits; at most 11, to PEW 11. */
    private static void p25_more_from0To11ArePutOut() {
        JuniorPews x = Tape.chapel(YOUNGER);
        due.are("an empty chapel", w -> x.more(0, w), 0, 0, 0);
        x.bar(11, 1);
        x.sundays(1);
        due.are("11 are put out", w -> x.more(11, w), 11, 2047, 11);
        JuniorPews y = Tape.chapel(COLUMN);
        y.bar(11, 1);
        y.sundays(1);
        due.are("11 full pews", w -> y.more(11, w), 0, 0, 11);
        JuniorPews z = Tape.chapel(TWELVE);
        z.bar(11, 1);
        z.sundays(1);
        due.are("the last seat", w -> z.more(11, w), 0, 0, 0);
    }

    /** BARRED or SULKING counts for nothing: one comes now. */
    private static void p25_more_ofOneWhoIsBarredOrSulks() {
        JuniorPews x = Tape.chapel("person 3;person 5;sulks 1;");
        x.bar(0, 9);
        x.come(1);
        due.are("more", w -> x.more(0, w), 1, 2, 1);
    }

    /** "NoSuchElementException: also another what", no such PERSON; nothing changes by a question. */
    private static void p25_more_what0And2AreTakenAndMinus1And3AreNot() {
        for (int what : new int[] {-1, 3, LEAST, GREATEST}) {
            Twins.noSuch(due, "more(3, " + what + ")", x -> x.more(3, what));
            Twins.noSuch(due, "more(0, " + what + ") of one who sits", x -> x.more(0, what));
        }
        for (int p : new int[] {-1, 4, LEAST, GREATEST}) {
            Twins.noSuch(due, "more(" + p + ", 0)", x -> x.more(p, 0));
        }
        // 3 puts out 2, who sits down behind 1
        due.are("more of 3", w -> Twins.lived().more(3, w), 1, 4, 1);
        for (int what = 0; what <= 2; what++) {
            int asked = what;
            Twins.asks(due, "more(3, " + what + ")", x -> x.more(3, asked));
        }
    }

    /* ---- promise 26 ---- */

    /** "i not 0 to 11": 0 and 11 are taken, -1 and 12 aren't. */
    private static void p26_order_0And11AreTakenAndMinus1And12AreNot() {
        JuniorPews x = Tape.chapel(TWELVE + "arrives 0-age;");
        due.is("order(0)", x.order(0), 0);
        due.is("order(11)", x.order(11), 11);
        for (int i : new int[] {-1, 12, LEAST, GREATEST}) {
            Twins.illegal(due, "order(" + i + ")", y -> y.order(i));
        }
        Twins.asks(due, "order(11)", y -> y.order(11));
    }

    /** "NONE: there are not so many": behind the last of those who would come; at once without PEOPLE. */
    private static void p26_order_noneBehindTheLast() {
        JuniorPews x = Tape.chapel("person 1;".repeat(11));
        due.is("the 11th", x.order(10), 10);
        due.is("no 12th", x.order(11), -1);
        x.bar(0, 1);
        due.is("no 11th then", x.order(10), -1);
        due.is("the 10th", x.order(9), 10);
        JuniorPews nobody = new JuniorPews();
        due.is("without people", nobody.order(0), -1);
        due.is("without people, the last", nobody.order(11), -1);
        due.illegal("without people, 12", () -> nobody.order(12));
        JuniorPews all = Tape.chapel(TWELVE + "sulks 1;");
        due.is("all sulk", all.order(0), -1);
    }

    /* ---- promise 27 ---- */

    /** "how many (i NONE; 0: nobody would come)". */
    private static void p27_longest_0IfNobodyWouldCome() {
        due.is("without people", new JuniorPews().longest(-1), 0);
        due.is("all sulk", Tape.chapel(TWELVE + "sulks 1;").longest(-1), 0);
        JuniorPews x = Tape.chapel("person 3;");
        due.is("one", x.longest(-1), 1);
        x.bar(0, 1);
        due.is("one who is barred", x.longest(-1), 0);
        due.noSuch("its first", () -> x.longest(0));
    }

    /** "the i-th .. there is none": the last of the row is taken, the one behind and i below NONE aren't. */
    private static void p27_longest_theLastOfTheRowIsTakenAndOneMoreIsNot() {
        JuniorPews x = Tape.chapel(TWELVE);
        due.is("12", x.longest(-1), 12);
        due.is("longest(11)", x.longest(11), 11);
        due.noSuch("longest(12)", () -> x.longest(12));
        JuniorPews y = Tape.chapel(YOUNGER);
        due.is("one", y.longest(-1), 1);
        due.is("longest(0)", y.longest(0), 0);
        due.noSuch("longest(1)", () -> y.longest(1));
        // 0 (20), 1 (6), 2 (12) would come
        due.are("lived", Twins.lived()::longest, 1, 2);
        for (int i : new int[] {-2, 2, 12, LEAST, GREATEST}) {
            Twins.noSuch(due, "longest(" + i + ")", z -> z.longest(i));
        }
        Twins.asks(due, "longest(-1)", z -> z.longest(-1));
        Twins.asks(due, "longest(0)", z -> z.longest(0));
    }

    /** "no AGE is less than that of the one ahead": like ones are in a row, one less isn't. */
    private static void p27_longest_likeAgesAreInARowAndOneLessIsNot() {
        due.is("like ones", Tape.chapel("person 5;person 5;").longest(-1), 2);
        due.is("one more", Tape.chapel("person 5;person 6;").longest(-1), 2);
        due.is("one less", Tape.chapel("person 5;person 4;").longest(-1), 1);
    }

    /** "of like ones the first row (by their numbers)". */
    private static void p27_longest_ofLikeOnesTheFirstRow() {
        JuniorPews x = Tape.chapel("person 3;person 9;person 8;person 7;person 4;");
        // rows of two: 0 with any, 4 behind 0; the first is 0, 1
        due.are("row", x::longest, 0, 1);
        JuniorPews y = Tape.chapel("person 9;person 3;person 8;person 4;arrives (age=3)+(age=8)*2+(age=4)*3;");
        // in ORDER 0 (9), 1 (3), 2 (8), 3 (4): rows of two are 1, 2 and 1, 3
        due.are("row that begins behind", y::longest, 1, 2);
    }

    /** A row whose first one is the first in ORDER, whatever number that is. */
    private static void p27_longest_beginsWithTheFirstInOrder() {
        JuniorPews x = Tape.chapel("person 9;person 3;arrives age;");
        due.are("row", x::longest, 1, 0);
        JuniorPews y = Tape.chapel(TWELVE + "arrives 0-age;");
        y.lie(11, 2);
        // in ORDER 11 (2), 0 (1) .. 10: the row begins behind the first
        due.is("how many", y.longest(-1), 11);
        due.is("its first", y.longest(0), 0);
        y.lie(11, 0);
        due.is("how many behind 0", y.longest(-1), 11);
    }

    /* ---- promise 28 ---- */

    /** "NONE: none", "one who would come": BARRED and SULKING ones have none. */
    private static void p28_toCome_noneIfOneWouldntCome() {
        JuniorPews x = Tape.chapel("person 3;person 5;sulks age=5;");
        due.are("sulks", w -> x.toCome(1, w), -1, -1);
        x.bar(0, 1);
        due.are("barred", w -> x.toCome(0, w), -1, -1);
        x.bar(0, 0);
        due.are("comes alone", w -> x.toCome(0, w), 0, 0);
    }

    /** "at which place in ORDER (0 on)": the first place, and the 12th of 12. */
    private static void p28_toCome_thePlaces0To11() {
        JuniorPews x = Tape.chapel("person 1;".repeat(11) + "person 9;minds theirs<age;");
        due.are("the oldest comes last", w -> x.toCome(11, w), 11, 0);
        due.are("of like ones the first place", w -> x.toCome(0, w), 0, 0);
        JuniorPews y = Tape.chapel(COLUMN);
        due.are("the last comes first", w -> y.toCome(11, w), 0, 0);
    }

    /** "of like ones the least place", where no place is better. */
    private static void p28_toCome_place0IfAllAreLike() {
        JuniorPews x = Tape.chapel("person 9;person 1;person 1;seats 2;");
        due.are("in pew 1 by any", w -> x.toCome(0, w), 0, 1);
    }

    /** "NoSuchElementException: also another what", no such PERSON; also of one who wouldn't come. */
    private static void p28_toCome_what0And1AreTakenAndMinus1And2AreNot() {
        for (int what : new int[] {-1, 2, LEAST, GREATEST}) {
            Twins.noSuch(due, "toCome(0, " + what + ")", x -> x.toCome(0, what));
            Twins.noSuch(due, "toCome(3, " + what + ") of one who is barred", x -> x.toCome(3, what));
        }
        for (int p : new int[] {-1, 4, LEAST, GREATEST}) {
            Twins.noSuch(due, "toCome(" + p + ", 0)", x -> x.toCome(p, 0));
        }
        Twins.asks(due, "toCome(0, 0)", x -> x.toCome(0, 0));
        Twins.asks(due, "toCome(0, 1)", x -> x.toCome(0, 1));
    }

    /* ---- promise 29 ---- */

    /** "NONE: none": in front already, alone, or nobody's staying away brings one forward. */
    private static void p29_whose_noneIfNotLessThanWithout() {
        due.is("alone", Tape.chapel("person 3;").whose(0), -1);
        due.is("in front", Tape.chapel("person 3;person 9;").whose(0), -1);
        due.is("two of two put one out", Tape.chapel("person 9;person 1;person 1;").whose(0), -1);
        due.is("one of one", Tape.chapel("person 9;person 1;").whose(0), 1);
    }

    /** "NONE: .. one wouldn't come". */
    private static void p29_whose_noneIfOneWouldntCome() {
        JuniorPews x = Tape.chapel("person 9;person 1;sulks sunday=1 and age=9;");
        due.is("comes", x.whose(0), 1);
        x.bar(0, 1);
        due.is("barred", x.whose(0), -1);
        x.sundays(1);
        due.is("sulks", x.whose(0), -1);
    }

    /** "of like ones the least", "(another one's who would come)"; among 12 the last one, too. */
    private static void p29_whose_ofLikeOnesTheLeastAndThe12th() {
        JuniorPews x = Tape.chapel("person 9;person 1;person 2;seats 1;");
        due.is("1 or 2", x.whose(0), 1);
        x.bar(1, 1);
        due.is("2 alone would come", x.whose(0), 2);
        due.is("the 12th", Tape.chapel("person 5;".repeat(11) + "person 1;").whose(0), 11);
        due.is("the first", Tape.chapel(COLUMN).whose(11), 0);
    }

    /** No such PERSON; nothing changes by a question. */
    private static void p29_whose_noSuchPerson() {
        for (int p : new int[] {-1, 4, 12, LEAST, GREATEST}) {
            Twins.noSuch(due, "whose(" + p + ")", x -> x.whose(p));
        }
        for (int p = 0; p < 4; p++) {
            int asked = p;
            Twins.asks(due, "whose(" + p + ")", x -> x.whose(asked));
        }
    }

    /* ---- promise 30 ---- */

    /** None where nobody sits, or each sits alone; 6 of 12. */
    private static void p30_couples_from0To6() {
        due.are("without people", new JuniorPews()::couples, 0, 0);
        due.are("nobody sits", Tape.chapel(TWELVE)::couples, 0, 0);
        due.are("each alone", after(COLUMN)::couples, 0, 0);
        due.are("12 in a pew", after(TWELVE)::couples, 6, 0);
        due.are("11 in a pew", after("person 1;".repeat(11))::couples, 5, 0);
        due.are("12 in pews of 11", after(TWELVE + "seats 11;")::couples, 5, 0);
        due.are("12 in pews of 3", after(TWELVE + "seats 3;")::couples, 4, 0);
    }

    /** "by which AGES differ least": 0 at least, 29 of one couple at most. */
    private static void p30_couples_agesDifferBy0To29() {
        due.are("29", after("person 0;person 29;")::couples, 1, 29);
        due.are("29 six times", after("person 0;person 29;".repeat(6) + "minds 0;")::couples, 6, 174);
        due.are("0 of three", after("person 0;person 29;person 29;")::couples, 1, 0);
        due.are("0 of three, the first two", after("person 0;person 0;person 29;")::couples, 1, 0);
    }

    /** Of 11 in a PEW any one in an even SEAT may be with nobody, the first and the last one, too. */
    private static void p30_couples_of11AnyEvenSeatIsAlone() {
        for (int alone = 0; alone <= 10; alone += 2) {
            // each couple has an AGE of its own, and who is alone another one
            StringBuilder text = new StringBuilder("minds 0;");
            for (int seat = 0; seat < 11; seat++) {
                int couple = seat < alone ? seat / 2 : (seat + 1) / 2;
                text.append("person ").append(seat == alone ? 29 : couple).append(';');
            }
            JuniorPews x = after(text.toString());
            due.are("alone in " + alone, x::couples, 5, 0);
            for (int seat = 0; seat < 11; seat++) {
                int other = seat == alone ? -1 : seat < alone ? seat ^ 1 : seat % 2 == 0 ? seat - 1 : seat + 1;
                due.is("alone in " + alone + ", with " + seat, x.person(seat, 8), other);
            }
        }
    }

    /** Of a PEW behind as of the front one, to the sixth of PEWS of 2. */
    private static void p30_couples_ofPewsBehind() {
        JuniorPews x = after("person 1;person 2;person 5;person 9;seats 2;minds 0;");
        due.are("two pews", x::couples, 2, 5);
        due.are("with whom", p -> x.person(p, 8), 1, 0, 3, 2);
        JuniorPews y = after(TWELVE + "seats 2;");
        due.are("six pews", y::couples, 6, 0);
        due.are("with whom, of 12", p -> y.person(p, 8), 1, 0, 3, 2, 5, 4, 7, 6, 9, 8, 11, 10);
        JuniorPews z = after(TWELVE + "seats 3;");
        due.are("with whom, by threes", p -> z.person(p, 8), 1, 0, -1, 4, 3, -1, 7, 6, -1, 10, 9, -1);
    }

    /** They are counted anew by each call. */
    private static void p30_couples_askedTwice() {
        JuniorPews x = after(TWELVE);
        x.lie(0, 3);
        due.is("how many", x.couples(0), 6);
        due.is("how many again", x.couples(0), 6);
        due.is("how much", x.couples(1), 2);
        due.is("how much again", x.couples(1), 2);
        x.leave(11);
        due.is("by one less", x.couples(0), 5);
    }

    /** "as many as can" counts more than how much: of four there are two couples. */
    private static void p30_couples_asManyAsCanAheadOfLeast() {
        due.are("four", after("person 0;person 20;person 20;person 29;")::couples, 2, 29);
        due.are("four by 58", after("person 0;person 29;person 29;person 0;minds 0;")::couples, 2, 58);
    }

    /** "of like ones the first row (by PEOPLE: the other one; with nobody behind all)". */
    private static void p30_couples_withNobodyBehindAll() {
        JuniorPews x = after("person 5;person 5;person 5;");
        due.are("0, 1, 2", p -> x.person(p, 8), 1, 0, -1);
        x.swap(0, 1);
        // 1, 0, 2: 0 with 1 or with 2
        due.are("1, 0, 2", p -> x.person(p, 8), 1, 0, -1);
        x.swap(1, 2);
        x.swap(0, 1);
        // 2, 1, 0: 0 with 1 ahead of 0 with nobody
        due.are("2, 1, 0", p -> x.person(p, 8), 1, 0, -1);
    }

    /** "of like ones the first row": where the first of PEOPLE are with the same ones, those behind them tell it. */
    private static void p30_couples_theFirstRowByThoseBehind() {
        JuniorPews x = Tape.chapel("person 5;".repeat(5));
        for (int p : new int[] {3, 2, 4, 0, 1}) {
            x.come(p);
        }
        // 0 with 1 by two ways, and then 2 with 3 or with 4
        due.are("3, 2, 4, 0, 1", p -> x.person(p, 8), 1, 0, 3, 2, -1);
        JuniorPews y = Tape.chapel("person 5;".repeat(3));
        for (int p : new int[] {0, 2, 1}) {
            y.come(p);
        }
        // 0 tells it ahead of 1, who would be with nobody by it
        due.are("0, 2, 1", p -> y.person(p, 8), 2, -1, 0);
    }

    /** "NoSuchElementException: another what": 0 and 1 are taken, -1 and 2 aren't. */
    private static void p30_couples_what0And1AreTakenAndMinus1And2AreNot() {
        for (int what : new int[] {-1, 2, LEAST, GREATEST}) {
            Twins.noSuch(due, "couples(" + what + ")", x -> x.couples(what));
        }
        Twins.asks(due, "couples(0)", x -> x.couples(0));
        Twins.asks(due, "couples(1)", x -> x.couples(1));
    }
}
