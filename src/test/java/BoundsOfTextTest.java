import java.util.Map;

/** The boundary cases of promises 1 to 4 and of the text that "Terms" tells, each sentence's in a method of its own. */
public final class BoundsOfTextTest {
    private static final Due due = new Due();
    private static final String TWELVE = "person 1;".repeat(12);
    /** 2 to the power of 31, which wraps to the least int. */
    private static final String LEAST = "8192*4*8192*8";
    private static final String GREATEST = "(" + LEAST + "-1)";

    public static void main(String[] args) throws IllegalAccessException {
        Cases.runAll(BoundsOfTextTest.class, due);
    }

    private static void fault(String text, int code, int place) {
        JuniorPews x = new JuniorPews();
        due.is("chapel of " + text, Tape.tell(x, text), code);
        due.is("fault of " + text, x.fault(), place);
    }

    private static void fine(String text) {
        fault(text, 0, -1);
    }

    /** A test that holds makes the one person of the chapel sulk. */
    private static void holds(String test) {
        due.is(test, Tape.chapel("person 7;sulks (" + test + ")=1;").count(5), 0);
    }

    /* ---- promise 1 ---- */

    /** "Nobody": no PERSON 0, nobody sits, would come, is in a couple. */
    private static void p01_aNewObjectHasNobody() {
        JuniorPews x = new JuniorPews();
        due.is("people", x.count(0), 0);
        due.noSuch("person(0, 0)", () -> x.person(0, 0));
        due.noSuch("pew(0, 0)", () -> x.pew(0, 0));
        due.is("who sits", x.count(4), 0);
        due.is("who would come", x.count(5), 0);
        due.is("couples", x.couples(0), 0);
    }

    /** "12 SEATS". */
    private static void p01_aNewObjectHas12Seats() {
        due.is("seats", new JuniorPews().count(1), 12);
    }

    /** Nothing is kept, seen, refused or on the tape at first, there is no FAULT and no image. */
    private static void p01_aNewObjectHasNothingElse() {
        JuniorPews x = new JuniorPews();
        due.are("count", x::count, 0, 12, 0, 0, 0, 0, 0, 0, 0, 0, 0, 0, 0, 0, 0);
        due.is("fault", x.fault(), -1);
        due.is("undo", x.undo(), -1);
        due.is("restore", x.restore(), false);
    }

    /** Sundays go by without PEOPLE, too, and are undone. */
    private static void p01_sundaysGoByWithoutPeople() {
        JuniorPews x = new JuniorPews();
        due.is("sundays(20)", x.sundays(20), 20);
        due.is("pews", x.count(3), 0);
        due.is("undo", x.undo(), 0);
        due.is("the Sunday", x.count(2), 0);
    }

    /** "An object is used for at most 512 calls": the 512th is answered as the first one. */
    private static void p01_the512thCallIsAnswered() {
        JuniorPews x = Tape.chapel("person 0;");
        // feed and chapel were 2 calls
        for (int call = 3; call <= 511; call++) {
            due.is("call " + call, x.lie(0, call % 2 + 1), call == 3 ? 0 : 2 - call % 2);
        }
        due.is("call 512", x.person(0, 2), 2);
    }

    /* ---- promise 2 ---- */

    private static int feedBlanks(JuniorPews x) {
        return x.feed(0x20202020, 0x20202020, 0x20202020, 0x20202020, 0x20202020);
    }

    /** "how many it has": 20 by the first call on an empty tape. */
    private static void p02_feed_anEmptyTapeHas20Then() {
        due.is("feed", feedBlanks(new JuniorPews()), 20);
    }

    /** "more than 700": the 700th byte is still taken, the 701st isn't. */
    private static void p02_feed_700BytesAreTakenAnd720AreNot() {
        JuniorPews x = new JuniorPews();
        for (int i = 1; i <= 35; i++) {
            due.is("feed " + i, feedBlanks(x), 20 * i);
        }
        due.is("feed 36", feedBlanks(x), -1);
        due.is("feed 37", feedBlanks(x), -1);
        due.is("bytes", x.count(11), 700);
    }

    /** "and none come": the full tape is as it was, to its last byte. */
    private static void p02_feed_noneComeToAFullTape() {
        JuniorPews x = new JuniorPews();
        Tape.feed(x, "person 3;" + " ".repeat(682) + "person 5;");
        x.feed(0x3f3f3f3f, 0x3f3f3f3f, 0x3f3f3f3f, 0x3f3f3f3f, 0x3f3f3f3f);
        due.is("chapel(700)", x.chapel(700), 0);
        due.is("people", x.count(0), 2);
        due.is("the last one's age", x.person(1, 2), 5);
    }

    /** A refused feed is no refused TEXT, ACT or SEEN, and no FAULT. */
    private static void p02_feed_aRefusalChangesNothing() {
        due.is("feed", fullTape().feed(1, 2, 3, 4, 5), -1);
        JuniorPews x = fullTape();
        x.feed(1, 2, 3, 4, 5);
        Twins.compare(due, "feed", x, fullTape(), Map.of());
    }

    private static JuniorPews fullTape() {
        JuniorPews x = Tape.chapel("person 3;");
        Tape.feed(x, " ".repeat(700));
        return x;
    }

    /** Room comes again when a chapel has emptied the full tape. */
    private static void p02_feed_aTapeThatWasFullTakesAgain() {
        JuniorPews x = fullTape();
        x.chapel(700);
        due.is("feed", feedBlanks(x), 20);
    }

    /** "of each number the highest first", of a number below 0, too: bytes are 0 to 255. */
    private static void p02_feed_theHighestByteFirstOfANumberBelow0() {
        JuniorPews x = new JuniorPews();
        x.feed(0x70657273, 0x6f6e2039, 0x3b2020ff, 0xff202020, 0x20202020);
        due.is("chapel(11)", x.chapel(11), 0);
        x.feed(0x70657273, 0x6f6e2039, 0x3b202020, 0xff202020, 0x20202020);
        due.is("chapel(20)", x.chapel(20), 1);
        due.is("fault", x.fault(), 12);
        x.feed(0x800a2020, 0, 0, 0, 0);
        due.is("chapel(1) of 128", x.chapel(1), 1);
        due.is("its place", x.fault(), 0);
    }

    /* ---- promise 3 ---- */

    /** "the tape has not so many": all it has is taken, one more isn't. */
    private static void p03_chapel_allOfTheTapeIsTakenAndOneMoreIsNot() {
        JuniorPews x = new JuniorPews();
        Tape.feed(x, "person 7;person 8;");
        due.illegal("chapel(21)", () -> x.chapel(21));
        due.is("chapel(20)", x.chapel(20), 0);
        due.illegal("chapel(1) of an empty tape", () -> x.chapel(1));
        JuniorPews full = fullTape();
        due.illegal("chapel(701)", () -> full.chapel(701));
        due.is("chapel(700)", full.chapel(700), 0);
        due.illegal("chapel of the greatest int", () -> full.chapel(Integer.MAX_VALUE));
    }

    /** "n below 0": 0 is taken, -1 isn't. */
    private static void p03_chapel_0IsTakenAndMinus1IsNot() {
        JuniorPews x = new JuniorPews();
        due.illegal("chapel(-1)", () -> x.chapel(-1));
        due.illegal("chapel of the least int", () -> x.chapel(Integer.MIN_VALUE));
        due.is("chapel(0)", x.chapel(0), 0);
        due.is("chapel(0) again", x.chapel(0), 0);
        due.is("people", x.count(0), 0);
        due.is("seats", x.count(1), 12);
    }

    /** "IllegalArgumentException .. (nothing changes)": not even the tape, STATUS or fault(). */
    private static void p03_chapel_nothingChangesByAnException() {
        Twins.illegal(due, "chapel(-1)", x -> x.chapel(-1));
        Twins.illegal(due, "chapel(21)", x -> x.chapel(21));
        Twins.illegal(due, "chapel of the least int", x -> x.chapel(Integer.MIN_VALUE));
        Twins.illegal(due, "chapel of the greatest int", x -> x.chapel(Integer.MAX_VALUE));
        JuniorPews x = new JuniorPews();
        Tape.feed(x, "person 7;person 8;");
        due.illegal("chapel(21)", () -> x.chapel(21));
        due.is("chapel(18)", x.chapel(18), 0);
        due.is("the tape was as before", x.person(1, 2), 8);
    }

    /** "(it is empty then)": also if n is less than it has, if n is 0, and by a FAULT. */
    private static void p03_chapel_theTapeIsEmptyThen() {
        JuniorPews x = new JuniorPews();
        Tape.feed(x, "person 7;person 8;");
        due.is("chapel(9)", x.chapel(9), 0);
        due.is("people", x.count(0), 1);
        due.is("bytes", x.count(11), 0);
        Tape.feed(x, "person 7;person 8;");
        due.is("chapel(0)", x.chapel(0), 0);
        due.is("bytes by chapel(0)", x.count(11), 0);
        Tape.feed(x, "person 7;person 8;");
        due.is("chapel(8)", x.chapel(8), 1);
        due.is("bytes by a fault", x.count(11), 0);
        due.illegal("what was there is gone", () -> x.chapel(1));
    }

    /** What the tape has behind n bytes counts for nothing, if it would be the rest of a TOKEN, too. */
    private static void p03_chapel_theBytesBehindNDontCount() {
        JuniorPews x = new JuniorPews();
        Tape.feed(x, "person 29;person ?");
        due.is("chapel(10)", x.chapel(10), 0);
        Tape.feed(x, "seats 12;");
        due.is("chapel(7): ends too soon", x.chapel(7), 1);
        due.is("its place", x.fault(), 7);
        Tape.feed(x, "seats 3;;");
        due.is("chapel(8)", x.chapel(8), 0);
        due.is("seats", x.count(1), 3);
    }

    /** "or the FAULT (all stays)": but for the tape, fault() and STATUS 0. */
    private static void p03_chapel_allStaysByAFault() {
        JuniorPews x = Twins.lived();
        due.is("the place before", x.fault(), 9);
        due.is("chapel(8)", x.chapel(8), 1);
        Twins.compare(due, "chapel(8)", x, Twins.lived(), Map.of("count 11", -20L, "count 12", 1L, "fault", -1L));
    }

    /** "(all stays)": rules and SEATS of the CHAPEL before, although the text told others ahead of its FAULT. */
    private static void p03_chapel_theRulesStayByAFault() {
        JuniorPews x = Tape.chapel("person 3;person 2;seats 1;arrives age;sulks sunday=1;minds 0;");
        due.is("a fault", Tape.tell(x, "person 9;seats 4;arrives 0-age;sulks 1;minds 1;?"), 1);
        due.are("count 0, 1", x::count, 2, 1);
        due.are("order", x::order, 1, 0, -1);
        x.sundays(1);
        due.is("nobody minds", x.count(7), 0);
        due.is("all sulk", x.count(5), 0);
    }

    /** "ACTS, what is SEEN, the image are gone (STATUS stays)". */
    private static void p03_chapel_actsSeenAndImageAreGoneAndStatusStays() {
        JuniorPews x = Twins.lived();
        due.is("chapel(18)", x.chapel(18), 0);
        due.are("count", x::count, 2, 12, 0, 0, 0, 3, 0, 0, 0, 0, 0, 0, 1, 1, 1);
        due.is("undo", x.undo(), -1);
        due.is("restore", x.restore(), false);
        due.are("person 0", w -> x.person(0, w), -1, -1, 7, 0, 0, 0, 0, 0, -1);
        due.is("all that is seen is so", x.old(2), 1);
    }

    /** "all anew": 12 SEATS and no rules, where the text tells none, though the one before did. */
    private static void p03_chapel_anEmptyTextIsAChapelWithoutAny() {
        JuniorPews x = Tape.chapel("person 3;person 2;seats 1;arrives 1;sulks 1;minds 1;");
        due.is("chapel(0)", x.chapel(0), 0);
        due.are("count 0, 1", x::count, 0, 12);
        Tape.tell(x, "person 3;person 3;");
        x.sundays(1);
        due.are("nobody sulks, nobody minds", w -> x.pew(0, w), 2, 3, 0, 1, 6);
    }

    /** STATUS 0 counts every TEXT with a FAULT, none without and no exception. */
    private static void p03_chapel_status0CountsFaultsAlone() {
        JuniorPews x = new JuniorPews();
        x.chapel(0);
        due.illegal("chapel(1)", () -> x.chapel(1));
        due.is("none", x.count(12), 0);
        for (int i = 1; i <= 3; i++) {
            Tape.tell(x, "?");
            due.is("status 0", x.count(12), i);
        }
        Tape.tell(x, "person 1;");
        due.are("count 12 to 14", i -> x.count(12 + i), 3, 0, 0);
    }

    /* ---- promise 4 ---- */

    /** "NONE without": at first, and by a latest chapel() without a FAULT. */
    private static void p04_fault_noneWithout() {
        JuniorPews x = new JuniorPews();
        due.is("at first", x.fault(), -1);
        Tape.tell(x, "x");
        due.is("place 0", x.fault(), 0);
        x.chapel(0);
        due.is("without", x.fault(), -1);
    }

    /** "The place": 0 is the first, the text's length the last one: 700 of a full tape. */
    private static void p04_fault_places0To700() {
        fault("x", 1, 0);
        fault(" ".repeat(699) + "x", 1, 699);
        fault("person" + " ".repeat(694), 1, 700);
    }

    /** "the latest chapel()'s": of two the second one's; a chapel() that throws changes nothing. */
    private static void p04_fault_theLatest() {
        JuniorPews x = new JuniorPews();
        Tape.tell(x, "person 30;");
        due.is("first", x.fault(), 7);
        Tape.tell(x, "seats 13;");
        due.is("second", x.fault(), 6);
        due.illegal("chapel(-1)", () -> x.chapel(-1));
        due.is("stays", x.fault(), 6);
        x.sundays(0);
        x.sundays(1);
        due.is("stays by acts", x.fault(), 6);
        Tape.feed(x, "person 3;");
        due.is("stays by feed", x.fault(), 6);
        x.image();
        x.restore();
        due.is("stays by restore", x.fault(), 6);
    }

    /* ---- terms: the text ---- */

    /** "PEOPLE (at most 12)": the 12th is taken, the 13th's first TOKEN is FAULT 2. */
    private static void terms_people_the12thIsTakenAndThe13thIsFault2() {
        fine(TWELVE);
        due.is("12 people", Tape.chapel(TWELVE).count(0), 12);
        due.is("11 people", Tape.chapel("person 1;".repeat(11)).count(0), 11);
        fault(TWELVE + "person 1;", 2, 108);
        fault(TWELVE + "seats 2;\nperson 1;", 2, 117);
        fault(TWELVE + "person", 2, 108);
        fault(TWELVE + "person 30;", 2, 108);
    }

    /** "an AGE (0 to 29)": 0 and 29 are taken, 30 is FAULT 2, below 0 can't be written. */
    private static void terms_age_0And29AreTakenAnd30IsNot() {
        JuniorPews x = Tape.chapel("person 0;person 29;person 0029;person 0000;");
        due.are("ages", p -> x.person(p, 2), 0, 29, 29, 0);
        fault("person 30;", 2, 7);
        fault("person 0030;", 2, 7);
        fault("person 9999;", 2, 7);
        fault("person 10000;", 2, 7);
        fault("person -1;", 1, 7);
    }

    /** "SEATS (1 to 12; 12 without)": 1 and 12 are taken, 0 and 13 are FAULT 2. */
    private static void terms_seats_1And12AreTakenAnd0And13AreNot() {
        due.is("1", Tape.chapel("seats 1;").count(1), 1);
        due.is("12", Tape.chapel("seats 12;").count(1), 12);
        due.is("0012", Tape.chapel("seats 0012;").count(1), 12);
        due.is("without", Tape.chapel("person 1;").count(1), 12);
        fault("seats 0;", 2, 6);
        fault("seats 0000;", 2, 6);
        fault("seats 13;", 2, 6);
        fault("seats 9999;", 2, 6);
        fault("seats -1;", 1, 6);
    }

    /** "A TEXT of at most 700 bytes": one of 700 is read to its last byte. */
    private static void terms_text_700BytesAreRead() {
        // 15, 674 and 11 bytes: the sum of 7 and 337 ones
        String text = "person 7;sulks " + "1+".repeat(337) + "7 = 0344;  ";
        due.is("bytes", text.length(), 700);
        JuniorPews x = new JuniorPews();
        due.is("chapel", Tape.tell(x, text), 0);
        due.is("the sum is so", x.count(5), 0);
        fine(" ".repeat(699) + "\n");
        fault(" ".repeat(691) + "person 30", 2, 698);
        fault(" ".repeat(692) + "person 3", 1, 700);
        due.is("a last line", Tape.chapel(" ".repeat(691) + "person 3;").count(0), 1);
    }

    /** A text of the most NUMBERS, and of the most operators, that 700 bytes can hold. */
    private static void terms_text_theMostNumbersAndOperatorsAreKept() {
        // 345 more ones: 8 + 1 + 690 + 1 bytes
        JuniorPews x = new JuniorPews();
        due.is("345 sums", Tape.tell(x, "arrives 1" + "+1".repeat(345) + ";"), 0);
        due.is("three rules", Tape.tell(x, "person 1;sulks 1" + "-1".repeat(110) + "+110;arrives 1" + "*1".repeat(110)
            + ";minds 1" + "/1".repeat(100) + ";"), 0);
        due.is("1 less 110 and 110", x.count(5), 0);
        String nots = "not not not not not not ";
        due.is("154 nots", Tape.tell(x, "person 1;sulks " + (nots + "1 or ").repeat(22) + nots + "0;"), 0);
        due.is("they hold", x.count(5), 0);
    }

    /** A text of 700 TOKENS, each a byte. */
    private static void terms_text_700TokensAreRead() {
        fault(";".repeat(700), 1, 0);
        fault("arrives 1" + "+1".repeat(345) + "+", 1, 700);
        fault("arrives 1" + "+1".repeat(345) + "?", 1, 699);
    }

    /** "words (a .. z, the longest row)": a and z are letters, the bytes beside them are none. */
    private static void terms_words_aAndZAreLettersAndTheirNeighboursAreNot() {
        fault("arrives a;", 3, 8);
        fault("arrives z;", 3, 8);
        fault("arrives `;", 1, 8);
        fault("arrives {;", 1, 8);
        fault("arrives A;", 1, 8);
        fault("arrives Z;", 1, 8);
        fault("arrives age`;", 1, 11);
        fault("arrives age{;", 1, 11);
        fault("arrives agez;", 3, 8);
        fault("arrives a ge;", 3, 8);
        fault("personperson 3;", 1, 0);
        fault("perso", 1, 0);
        fine("person3;seats4;arrives3or age and not 5;");
    }

    /** "NUMBERS (1 to 4 digits)": 0 and 9 are digits, the bytes beside them are none. */
    private static void terms_numbers_0And9AreDigitsAndTheirNeighboursAreNot() {
        fine("person 0;person 9;");
        fault("person :;", 1, 7);
        fault("person /;", 1, 7);
        fault("person 9:;", 1, 8);
        fault("person 2/;", 1, 8);
        fault("arrives 1:1;", 1, 9);
        fine("arrives 1/1;");
    }

    /** "a NUMBER of 5 digits or more": 4 digits are taken, 5 aren't, nor as many as wrap an int, nor 600. */
    private static void terms_numbers_4DigitsAreTakenAnd5AreNot() {
        holds("9999=9998+1");
        holds("0009=9");
        holds("0000=0");
        fault("arrives 10000;", 2, 8);
        fault("arrives 00001;", 2, 8);
        fault("arrives 1+4294967297;", 2, 10);
        fault("arrives 18446744073709551617;", 2, 8);
        fault("arrives " + "1".repeat(600) + ";", 2, 8);
        fault("person 00001;", 2, 7);
        fault("person 4294967297;", 2, 7);
        fault("seats 00001;", 2, 6);
        fine("seats 0001;");
    }

    /** In an EXPR every NUMBER of 4 digits is as told, in a LINE only what "Terms" tells. */
    private static void terms_numbers_notAsToldIsNoFaultInAnExpr() {
        fine("arrives 30;sulks 13;minds 0;");
        fine("arrives 9999;sulks 9999;minds 9999;");
    }

    /** "signs ; ( ) + - * / < =": each is one, no other byte is. */
    private static void terms_signs_noOtherByteIsAToken() {
        for (int sign = 0; sign < 256; sign++) {
            char c = (char) sign;
            boolean isWord = c >= 'a' && c <= 'z';
            boolean isDigit = c >= '0' && c <= '9';
            boolean isBlank = c == 32 || c == 10;
            if (!isWord && !isDigit) {
                // behind a PART an operator may stand, which lacks its own PART then, or the LINE's end
                int code = c == ';' ? 0 : 1;
                int place = c == ';' ? -1 : "+-*/<=".indexOf(c) >= 0 || isBlank ? 10 : 9;
                fault("arrives 1" + c, code, place);
            }
        }
    }

    /** "blanks (32, 10) between them count for nothing": the bytes beside them don't. */
    private static void terms_blanks_32And10AreAndTheirNeighboursAreNot() {
        fine("\n person\n\n3 ; \n");
        for (int sign : new int[] {0, 9, 11, 13, 31, 33, 127, 128, 138, 160, 255}) {
            fault("person" + (char) sign + "3;", 1, 6);
            fault("person 3;" + (char) sign, 1, 9);
        }
        fine("arrives\n1+\n2<( 3 ) ;");
        fault("arrives 1 2;", 1, 10);
        fault("per son 3;", 1, 0);
    }

    /** "CHAPEL: LINE*": no LINE at all is one; ';' alone is none. */
    private static void terms_chapel_noLineIsAChapel() {
        fine("");
        fine(" ");
        fine("\n");
        fault(";", 1, 0);
        fault("person 3;;", 1, 9);
    }

    /** "(the text's length where it ends too soon)": behind each TOKEN of a LINE but the last one. */
    private static void terms_fault1_atTheTextsLengthWhereItEndsTooSoon() {
        String[] lines = {"person 12 ;", "seats 3 ;", "arrives 1 + ( age * 2 ) < 7 ;", "sulks not not 3 or 4 and 5 ;",
            "minds ( ( theirs ) ) - 1 / 2 = 3 ;"};
        for (String line : lines) {
            for (int end = 1; end < line.length(); end++) {
                if (line.charAt(end) == ' ') {
                    fault(line.substring(0, end), 1, end);
                    fault(line.substring(0, end) + " \n ", 1, end + 3);
                }
            }
            fine(line);
        }
    }

    /** "1 a TOKEN that can't stand there": at its first byte. */
    private static void terms_fault1_aTokenThatCantStandThere() {
        fault("12;", 1, 0);
        fault("( person 3;", 1, 0);
        fault("age;", 1, 0);
        fault("or;", 1, 0);
        fault("person seats 3;", 1, 7);
        fault("person person 3;", 1, 7);
        fault("person 3 person 3;", 1, 9);
        fault("person 3 4;", 1, 9);
        fault("seats three;", 1, 6);
        fault("arrives ;", 1, 8);
        fault("arrives +1;", 1, 8);
        fault("arrives 1 not 2;", 1, 10);
        fault("arrives 1 (2);", 1, 10);
        fault("arrives 1<2=1;", 1, 11);
        fault("arrives (1<2)<(1=1)<1;", 1, 19);
        fault("arrives (1 age);", 1, 11);
        fault("arrives (1;", 1, 10);
        fault("arrives 1);", 1, 9);
        fine("arrives (1<2)=(1<2) and (1<2)<1;");
    }

    /** "of an EXPR within 6 others": within 5 is taken; the first TOKEN within 6 is FAULT 2, be it NUMBER, word or ( . */
    private static void terms_fault2_anExprWithin5IsTakenAndWithin6IsNot() {
        fine("arrives (((((1)))));");
        fine("arrives 1+(2*(3-(4/(5<(6)))));");
        for (String first : new String[] {"1", "12345", "age", "foo", "or", "not 1", "person", "(1)", "theirs"}) {
            fault("arrives ((((((" + first + "))))));", 2, 14);
            fault("arrives (((((( " + first, 2, 15);
        }
        fault("minds 1+(2*(3-(4/(5<(6+(7))))));", 2, 24);
    }

    /** Within 6 others what can't stand there, or is no TOKEN, is FAULT 1, which is less. */
    private static void terms_fault2_within6OthersWhatCantStandIsFault1() {
        for (String first : new String[] {")", "+1", ";", "=", "?", "A"}) {
            fault("arrives ((((((" + first + "))))));", 1, 14);
        }
        fault("arrives ((((((", 1, 14);
        fault("arrives (((((( ", 1, 15);
    }

    /** How deep an EXPR is within counts for each one, not for all that the text has. */
    private static void terms_fault2_depthIsCountedForEachExpr() {
        fine("arrives (((((1)))))+(((((1)))))<(((((1)))));sulks (((((1)))));minds (((((1)))));");
        fault("arrives (((((1)))))+((((((1))))));", 2, 26);
    }

    /** "the seventh 'not' side by side": six are taken. */
    private static void terms_fault2_6NotsAreTakenAndThe7thIsNot() {
        fine("arrives not not not not not not 1;");
        holds("(not not not not not not 7)=1");
        fault("arrives not not not not not not not 1;", 2, 32);
        fault("arrives not not not not not not not", 2, 32);
        fault("sulks 1 and not not not not not not not not 1;", 2, 36);
        // what stands between them begins the count anew
        fine("arrives not not not not not not(not not not not not not 1)or not not not not not not 1;");
        fine("arrives not not not not not not 1 and not not not not not not 1;");
    }

    /** "3 any word where a PART must stand that is no VALUE of this EXPR". */
    private static void terms_fault3_aWordThatIsNoValueOfThisExpr() {
        for (String rule : new String[] {"arrives", "sulks", "minds"}) {
            for (String word : new String[] {"age", "pew", "seat", "moved"}) {
                fine(rule + " " + word + ";");
            }
            for (String word : new String[] {"foo", "ages", "ag", "person", "seats", "arrives", "or", "and", "none"}) {
                fault(rule + " " + word + ";", 3, rule.length() + 1);
                fault(rule + " 1+" + word + ";", 3, rule.length() + 3);
                fault(rule + " (" + word + ");", 3, rule.length() + 2);
                fault(rule + " not " + word + ";", 3, rule.length() + 5);
            }
            fault(rule + " 1+not 1;", 3, rule.length() + 3);
            fault(rule + " 1<not 1;", 3, rule.length() + 3);
            fault(rule + " 1*not 1;", 3, rule.length() + 3);
        }
    }

    /** 'away' and 'sunday' are VALUES of ARRIVES and SULKS alone, 'theirs' of MINDS alone. */
    private static void terms_fault3_awaySundayAndTheirsByRule() {
        fine("arrives away+sunday;sulks away+sunday;minds theirs;");
        fault("minds away;", 3, 6);
        fault("minds sunday;", 3, 6);
        fault("arrives theirs;", 3, 8);
        fault("sulks theirs;", 3, 6);
        // the rule before doesn't count
        fault("minds theirs;arrives theirs;", 3, 21);
        fault("arrives away;minds away;", 3, 19);
    }

    /** "5 a second 'seats', 'arrives', 'sulks', 'minds'": at its word, whatever is behind it. */
    private static void terms_fault5_aSecondLineOfItsKind() {
        String all = "seats 1;arrives 1;sulks 1;minds 1;";
        fine(all);
        for (String second : new String[] {"seats 1;", "arrives 1;", "sulks 1;", "minds 1;", "seats", "seats 13;", "minds foo;"}) {
            fault(all + second, 5, all.length());
        }
        fault("seats 12;seats 12;", 5, 9);
        fine("person 1;person 1;");
    }

    /** "of one TOKEN the least". */
    private static void terms_faults_ofOneTokenTheLeast() {
        // 1 of 1 and 5: a second 'seats' where it can't stand
        fault("seats 1;person seats 1;", 1, 15);
        fault("seats 1 seats 1;", 1, 8);
        // 3 of 3 and 5: a second 'arrives' where a PART must stand
        fault("arrives 1;sulks arrives;", 3, 16);
        // 1 of 1 and 2: a 13th 'person', a NUMBER of 5 digits where they can't stand
        fault(TWELVE + "seats person 1;", 1, 114);
        fault("12345;", 1, 0);
        fault("arrives 1 12345;", 1, 10);
        // 2 of 2 and 3
        fault("arrives ((((((foo))))));", 2, 14);
    }

    /** "the first along the text": an earlier one counts, though its number is more. */
    private static void terms_faults_theFirstAlongTheText() {
        fault("seats 1;seats 13;?", 5, 8);
        fault("arrives foo ?;", 3, 8);
        fault("person 30;?", 2, 7);
        fault("? person 30;", 1, 0);
        fault("person 3;?" + TWELVE, 1, 9);
    }

    /* ---- terms: what expressions give ---- */

    /** "ints that wrap": + - * beyond the greatest and the least int. */
    private static void terms_expr_sumsAndProductsWrap() {
        holds(LEAST + "<0");
        holds("0<" + GREATEST);
        holds(GREATEST + "+1=" + LEAST);
        holds(LEAST + "-1=" + GREATEST);
        holds("0-" + LEAST + "=" + LEAST);
        holds(GREATEST + "*2=0-2");
        holds(GREATEST + "*" + GREATEST + "=1");
        holds("8192*8*8192*8=0");
        // 10 to the power of 10 is 2 times 2 to the power of 32 and 1,410,065,408
        holds("1000*1000*1000*10=1410*1000*1000+65*1000+408");
    }

    /** A test of ints that lie farther apart than an int holds. */
    private static void terms_expr_testsOfTheLeastAndTheGreatestInt() {
        holds(LEAST + "<" + GREATEST);
        holds("not " + GREATEST + "<" + LEAST);
        holds("not " + LEAST + "<" + LEAST);
        holds(LEAST + "=" + LEAST);
        holds("not " + LEAST + "=" + GREATEST);
    }

    /** "/ cut down to 0", on each side of it. */
    private static void terms_expr_quotientsAreCutDownTo0() {
        holds("7/2=3");
        holds("(0-7)/2=0-3");
        holds("7/(0-2)=0-3");
        holds("(0-7)/(0-2)=3");
        holds("1/2=0");
        holds("(0-1)/2=0");
        holds(LEAST + "/2=0-8192*4*8192*4");
    }

    /** The least int by -1 wraps to itself. */
    private static void terms_expr_theLeastIntByMinus1Wraps() {
        holds("(" + LEAST + ")/(0-1)=" + LEAST);
    }

    /** "by 0 gives 0": of 0, of the least and the greatest int, by a VALUE that is 0. */
    private static void terms_expr_by0Gives0() {
        holds("7/0=0");
        holds("(0-7)/0=0");
        holds("0/0=0");
        holds("(" + LEAST + ")/0=0");
        holds(GREATEST + "/0=0");
        holds("7/sunday=0");
        holds("7/(age-7)+3=3");
    }

    /** "what isn't 0 holds": 1, what is below 0, the least int; 0 doesn't. */
    private static void terms_expr_whatIsnt0Holds() {
        holds("(1 and 5)=1");
        holds("((0-1) and (0-5))=1");
        holds("(" + LEAST + " and " + GREATEST + ")=1");
        holds("(0 and 1)=0");
        holds("(1 and 0)=0");
        holds("(0 or 0)=0");
        holds("(0 or (0-1))=1");
        holds("((0-1) or 0)=1");
        holds("(not 0)=1");
        holds("(not (0-1))=0");
        holds("(not 2)=0");
        holds("(not " + LEAST + ")=0");
    }

    /** "From the left", as far as a row of operators goes. */
    private static void terms_expr_fromTheLeft() {
        holds("9-4-3=2");
        holds("9-4+3=8");
        holds("100/7/3=4");
        holds("100/7*3=42");
        holds("7*3/2*2=20");
    }

    /* ---- terms: rules ---- */

    /** "SULKS gives more than 0": 1 and the greatest int do, 0, -1 and the least int don't. */
    private static void terms_sulks_1IsMoreThan0And0AndMinus1AreNot() {
        due.is("1", Tape.chapel("person 1;sulks 1;").count(5), 0);
        due.is("the greatest", Tape.chapel("person 1;sulks " + GREATEST + ";").count(5), 0);
        due.is("0", Tape.chapel("person 1;sulks 0;").count(5), 1);
        due.is("-1", Tape.chapel("person 1;sulks 0-1;").count(5), 1);
        due.is("the least", Tape.chapel("person 1;sulks " + LEAST + ";").count(5), 1);
    }

    /** "without it nobody". */
    private static void terms_sulks_withoutItNobody() {
        due.is("nobody", Tape.chapel(TWELVE).count(5), 4095);
    }

    /** "MINDS gives more than 0": 1 and the greatest int do, 0, -1 and the least int don't. */
    private static void terms_minds_1IsMoreThan0And0AndMinus1AreNot() {
        String two = "person 1;person 1;minds ";
        due.is("1", Tape.chapel(two + "1;").later(1, 2), 1);
        due.is("the greatest", Tape.chapel(two + GREATEST + ";").later(1, 2), 1);
        due.is("0", Tape.chapel(two + "0;").later(1, 2), 0);
        due.is("-1", Tape.chapel(two + "0-1;").later(1, 2), 0);
        due.is("the least", Tape.chapel(two + LEAST + ";").later(1, 2), 0);
    }

    /** "without it: whose AGE is more than that of who comes": one more is, like ones aren't. */
    private static void terms_minds_withoutItOneMoreIsAndLikeOnesAreNot() {
        due.is("one more", Tape.chapel("person 6;person 5;").later(1, 2), 1);
        due.is("like ones", Tape.chapel("person 5;person 5;").later(1, 2), 0);
        due.is("one less", Tape.chapel("person 4;person 5;").later(1, 2), 0);
        due.is("29 and 0", Tape.chapel("person 29;person 0;").later(1, 2), 1);
    }

    /** "by what ARRIVES gave (the least first; of like ones the least)": from the least int to the greatest one. */
    private static void terms_arrives_theLeastIntIsFirstAndTheGreatestLast() {
        JuniorPews x = Tape.chapel("person 1;person 2;person 3;person 4;arrives (age=1)*" + GREATEST + "+(age=2 or age=4)*"
            + "(" + LEAST + ");");
        due.are("order", x::order, 1, 3, 2, 0, -1);
    }

    /** "(without it one's number)", "of like ones the least". */
    private static void terms_arrives_withoutItAndOfLikeOnesByNumber() {
        due.are("without", Tape.chapel(TWELVE)::order, 0, 1, 2, 3, 4, 5, 6, 7, 8, 9, 10, 11);
        due.are("like ones", Tape.chapel(TWELVE + "arrives 0-5;")::order, 0, 1, 2, 3, 4, 5, 6, 7, 8, 9, 10, 11);
    }

    /** "'pew', 'seat' (where one sits ahead of this SUNDAY; 12, if nowhere)". */
    private static void terms_values_pewAndSeatAre12Nowhere() {
        JuniorPews x = Tape.chapel("person 3;sulks pew=12 and seat=12;");
        due.is("nowhere", x.count(5), 0);
        x.come(0);
        due.is("pew 0, seat 0", x.count(5), 1);
        JuniorPews p = Tape.chapel("person 3;person 3;sulks pew=12;");
        p.come(0);
        due.is("pew alone", p.count(5), 1);
        JuniorPews s = Tape.chapel("person 3;person 3;sulks seat=12;");
        s.come(0);
        due.is("seat alone", s.count(5), 1);
        JuniorPews y = Tape.chapel(TWELVE + "sulks seat=11;");
        y.sundays(1);
        due.is("seat 11", y.count(5), 2047);
        JuniorPews z = Tape.chapel(TWELVE + "seats 1;sulks pew=11;");
        z.sundays(1);
        due.is("pew 11", z.count(5), 2047);
    }

    /** "'moved' (how often one was PUT OUT since all got up last)": 0 by a Sunday on which one isn't. */
    private static void terms_values_movedIs0WhenAllHaveGotUp() {
        JuniorPews x = Tape.chapel("person 9;person 5;sulks moved;");
        due.is("at first", x.count(5), 3);
        x.sundays(1);
        due.is("put out", x.count(5), 2);
        x.sundays(1);
        due.is("stayed away", x.count(5), 3);
        x.come(0);
        due.is("came late", x.count(5), 3);
        x.leave(0);
        x.leave(1);
        x.come(0);
        x.come(1);
        due.is("put out by one who comes late", x.count(5), 2);
    }

    /** "'away' (how many SUNDAYS one behind the other one has stayed away)": 0 by one on which one comes. */
    private static void terms_values_awayIs0ByOneSundayOnWhichOneComes() {
        JuniorPews x = Tape.chapel("person 9;sulks away<2;");
        x.sundays(2);
        due.is("two", x.person(0, 5), 2);
        x.sundays(1);
        due.is("came", x.person(0, 5), 0);
        x.sundays(1);
        due.is("one", x.person(0, 5), 1);
        // the last of 12 is away for itself: 3, while all others come
        JuniorPews y = Tape.chapel(TWELVE + "sulks age=9 and away<3;");
        y.lie(11, 9);
        y.sundays(3);
        due.is("the last of 12", y.person(11, 5), 3);
        due.is("another one", y.person(10, 5), 0);
        due.is("would come then", y.count(5), 4095);
    }

    /** 'seat' is that of a PEW behind, too: the first and the last of PEW 1. */
    private static void terms_values_seatOfAPewBehind() {
        JuniorPews x = Tape.chapel(TWELVE + "seats 6;sulks seat=5;");
        x.sundays(1);
        due.is("seat 5 of both", x.count(5), 4095 - 32 - 2048);
        JuniorPews y = Tape.chapel(TWELVE + "seats 6;sulks pew=1 and seat=0;");
        y.sundays(1);
        due.is("seat 0 of pew 1", y.count(5), 4095 - 64);
    }

    /** "of MINDS, for who sits: .. 'pew', 'seat'": to 10 of each, the last that another one can come to. */
    private static void terms_values_pewAndSeatOfMindsUpTo10() {
        JuniorPews x = Tape.chapel(TWELVE + "seats 1;minds pew=10;");
        JuniorPews y = Tape.chapel(TWELVE + "minds seat=10;");
        for (int p = 0; p < 11; p++) {
            due.is("pews: come " + p, x.come(p), 0);
            due.is("seats: come " + p, y.come(p), 0);
        }
        due.is("who is in pew 10 minds", x.come(11), 1);
        due.is("has its seat", x.person(11, 0), 10);
        due.is("goes to pew 11", x.person(10, 0), 11);
        due.is("who is in seat 10 minds", y.come(11), 1);
        due.is("has seat 10", y.person(11, 1), 10);
        due.is("goes to pew 1", y.person(10, 0), 1);
    }

    /** "'theirs' (AGE of who comes to that PEW, PUT OUT or not)". */
    private static void terms_values_theirsOfWhoComesToThatPew() {
        JuniorPews x = Tape.chapel("person 9;person 7;person 3;seats 1;minds pew=0 and theirs=3 or pew=1 and theirs=9;");
        x.come(0);
        x.come(1);
        // 2 (3) puts out 0 (9), who comes to PEW 1 and puts out 1
        due.is("put out", x.come(2), 2);
        due.are("pews", p -> x.person(p, 0), 1, 2, 0);
        JuniorPews y = Tape.chapel("person 9;person 9;person 7;seats 1;minds pew=1 and theirs=7;");
        y.come(0);
        y.come(1);
        due.is("not put out, by a full pew", y.come(2), 1);
        due.are("pews then", p -> y.person(p, 0), 0, 2, 1);
    }

    /** "'moved' (so, too)": of MINDS it counts on the same SUNDAY, and is 0 on the next one till one is PUT OUT. */
    private static void terms_values_movedOfMindsCountsOnTheSameSunday() {
        JuniorPews x = Tape.chapel("person 9;person 5;person 5;minds moved=0;");
        for (int sunday = 1; sunday <= 2; sunday++) {
            x.sundays(1);
            // 1 puts out 0; 2 puts out 1, whom 0, who was put out once, doesn't mind
            due.are("pew 0 on " + sunday, w -> x.pew(0, w), 1, 4, 2, 2, 5);
            due.are("pew 1 on " + sunday, w -> x.pew(1, w), 2, 3, 0, 1, 14);
            due.is("put out on " + sunday, x.count(6), 2);
        }
    }

    /** 'sunday' is the SUNDAY ahead of it: 0 at first, and one that the next 10,000 Sundays bring, too. */
    private static void terms_values_sundayIs0AtFirstAndGoesOnBehind9999() {
        due.is("0", Tape.chapel("person 9;sulks sunday=0;").count(5), 0);
        JuniorPews x = Tape.chapel("person 9;sulks sunday=9999+5;");
        for (int i = 0; i < 499; i++) {
            x.sundays(20);
        }
        x.sundays(19);
        due.is("9999", x.count(2), 9999);
        due.is("behind 5", x.then(0, 5, 0), 0);
        due.is("behind 6", x.then(0, 6, 0), -1);
        due.is("behind 7", x.then(0, 7, 0), 0);
    }
}
