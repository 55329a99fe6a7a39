/** The boundaries that the document's Terms name for rooms, minutes, kinds and the text. */
public final class HouseBoundaryTest extends Sentences {
    public static void main(String[] args) throws Exception {
        check(HouseBoundaryTest.class, TERMS, TERMS);
    }

    // ---- Terms: rooms and minutes

    static void termsRoomsAreFour() {
        by(TERMS, "3, STRIPPED or not");
        PaperHears x = new PaperHears();
        due("strips(-1)", x.strips(-1), BAD);
        due("strips(4)", x.strips(4), BAD);
        for (int r = 0; r < 4; r++) {
            due("strips(" + r + ")", x.strips(r), 0);
            due("count(3)", x.count(3), r + 1);
        }
        due("room(3, 0)", x.room(3, 0), 0);
    }

    static void termsNoRoomIsStrippedAtFirst() {
        by(TERMS, "(not at first)");
        PaperHears x = new PaperHears();
        due("count(3)", x.count(3), 0);
        for (int r = 0; r < 4; r++) {
            due("room(" + r + ", 0)", x.room(r, 0), NONE);
            due("papers(" + r + ")", x.papers(r), NO);
        }
    }

    static void termsMinutesAreZeroAtFirst() {
        by(TERMS, "MINUTES have numbers, 0 at first");
        PaperHears x = new PaperHears();
        due("count(2)", x.count(2), 0);
        x.minutes(1);
        due("count(2)", x.count(2), 1);
    }

    static void termsMinutesAre9999AtMost() {
        by(TERMS, "(9999 at most)");
        PaperHears x = atLast("house;");
        due("count(2)", x.count(2), 9999);
        x.minutes(99);
        due("count(2)", x.count(2), 9999);
        x.undo();
        x.undo();
        due("count(2), undone", x.count(2), 9900);
        x.minutes(98);
        due("count(2), one ahead of it", x.count(2), 9998);
        x.minutes(2);
        due("count(2), one too many", x.count(2), 9999);
    }

    static void termsARoomSpeaksThirtyMinutes() {
        by(TERMS, "speaks for 30 MINUTES from then on (ROOM's minute m: 0 .. 29), then no more");
        PaperHears x = told("house;say 0 1 9;minutes 7;strip 1;");
        for (int m = 0; m < 30; m++) {
            due("room(1, 0)", x.room(1, 0), m);
            due("room(1, 1) at " + m, x.room(1, 1), 9 - m / 4);
            x.minutes(1);
        }
        for (int m = 30; m < 34; m++) {
            due("room(1, 0) at " + m, x.room(1, 0), NONE);
            due("room(1, 1) at " + m, x.room(1, 1), 0);
            x.minutes(1);
        }
    }

    static void termsTheThirtiethMinuteIsTheLastThatIsHeard() {
        by(TERMS, "then no more");
        PaperHears x = told("house;say 0 0 9;ear 0 1;strip 0;minutes 29;");
        x.goes(0, 0);
        due("about(0, 3) at 29", x.about(0, 3), 1);
        due("minutes(1) at 29", x.minutes(1), 1);
        due("about(0, 3) at 30", x.about(0, 3), 0);
        PaperHears y = told("house;say 0 0 9;ear 0 1;strip 0;minutes 30;");
        y.goes(0, 0);
        due("about(0, 3) at 30", y.about(0, 3), 0);
        due("minutes(99) at 30", y.minutes(99), 0);
    }

    static void termsSayingsAreZeroToSeven() {
        by(TERMS, "SAYINGS 0 .. 7, as they come");
        PaperHears x = new PaperHears();
        for (int s = 0; s < 8; s++) {
            due("say()", x.say(s % 6, s % 4, s + 1), s);
            due("of(" + s + ", 2)", x.of(s, 2), s + 1);
            due("of(" + (s + 1) + ", 2)", x.of(s + 1, 2), BAD);
        }
        due("a 9th", x.say(0, 0, 1), FULL);
        due("count(0)", x.count(0), 8);
        due("of(7, 0)", x.of(7, 0), 1);
        due("of(7, 1)", x.of(7, 1), 3);
        due("of(8, 0)", x.of(8, 0), BAD);
    }

    static void termsLoudIsOneToNine() {
        by(TERMS, "how LOUD (1 .. 9)");
        PaperHears x = new PaperHears();
        due("say(0, 0, 0)", x.say(0, 0, 0), BAD);
        due("say(0, 0, 10)", x.say(0, 0, 10), BAD);
        due("say(0, 0, 1)", x.say(0, 0, 1), 0);
        due("say(0, 0, 9)", x.say(0, 0, 9), 1);
        due("of(0, 2)", x.of(0, 2), 1);
        due("of(1, 2)", x.of(1, 2), 9);
    }

    static void termsListenersAreZeroToTwo() {
        by(TERMS, "LISTENERS 0 .. 2, as they come");
        PaperHears x = new PaperHears();
        due("about(0, 0)", x.about(0, 0), BAD);
        for (int i = 0; i < 3; i++) {
            due("ear()", x.ear(5 - i), i);
            due("about(" + i + ", 0)", x.about(i, 0), 5 - i);
            due("about(" + (i + 1) + ", 0)", x.about(i + 1, 0), BAD);
        }
        due("a 4th", x.ear(0), FULL);
        due("count(1)", x.count(1), 3);
    }

    static void termsListenersAreInRoomZeroAtFirst() {
        by(TERMS, "each is in a ROOM (0 at first)");
        PaperHears x = told("house;ear 0 3;ear 0 2;ear 0 1;");
        due("about(0, 1), told so", x.about(0, 1), 3);
        x.house();
        for (int i = 0; i < 3; i++) {
            x.ear(i);
            due("about(" + i + ", 1)", x.about(i, 1), 0);
        }
    }

    static void termsListenersKnowNothingAtFirst() {
        by(TERMS, "KNOWS SAYINGS (none at first)");
        PaperHears x = told("house;say 0 0 9;ear 0 0;strip 0;minutes 2;");
        due("about(0, 2)", x.about(0, 2), 1);
        x.ear(0);
        due("about(1, 3)", x.about(1, 3), 1);
        due("about(1, 2)", x.about(1, 2), 0);
        x.minutes(1);
        due("about(1, 2) behind a minute", x.about(1, 2), 1);
        x.house();
        x.ear(0);
        due("about(0, 2), another", x.about(0, 2), 0);
        read(x, "house;say 0 0 9;strip 0;minutes 2;ear 0 0;");
        due("about(0, 2), come too late", x.about(0, 2), 0);
    }

    // ---- Terms: how loud the kinds of sayings are, by minute 0 to 29 (d is 13)

    private static void loudness(int kind, int loud, String byMinute) {
        PaperHears x = new PaperHears();
        x.say(kind, 0, loud);
        String digits = byMinute.replace(" ", "");
        due("how many minutes are told", digits.length(), 30);
        for (int m = 0; m < digits.length(); m++) {
            due("loud(0, " + m + ") of kind " + kind + ", " + loud, x.loud(0, m), Character.digit(digits.charAt(m), 36));
        }
    }

    static void termsPlainIsZeroAtLeast() {
        by(TERMS, "0 PLAIN: l less a quarter (cut) of m, 0 at least");
        loudness(0, 9, "9999 8888 7777 6666 5555 4444 3333 22");
        loudness(0, 7, "7777 6666 5555 4444 3333 2222 1111 00");
        loudness(0, 6, "6666 5555 4444 3333 2222 1111 0000 00");
        loudness(0, 1, "1111 0000 0000 0000 0000 0000 0000 00");
    }

    static void termsWhisperIsHalfCutUp() {
        by(TERMS, "1 WHISPER (under PLAIN): half (cut up) of PLAIN");
        loudness(1, 9, "5555 4444 4444 3333 3333 2222 2222 11");
        loudness(1, 8, "4444 4444 3333 3333 2222 2222 1111 11");
        loudness(1, 1, "1111 0000 0000 0000 0000 0000 0000 00");
    }

    static void termsShoutIsLouderToMinuteTwo() {
        by(TERMS, "PLAIN, and 4, if m is 2 or less");
        loudness(2, 9, "ddd9 8888 7777 6666 5555 4444 3333 22");
        loudness(2, 1, "5551 0000 0000 0000 0000 0000 0000 00");
    }

    static void termsGoodbyeIsLouderFromMinuteTwenty() {
        by(TERMS, "WHISPER, and 3, if m is 20 or more");
        loudness(3, 9, "5555 4444 4444 3333 3333 5555 5555 44");
        loudness(3, 1, "1111 0000 0000 0000 0000 3333 3333 33");
    }

    static void termsHaveYouSeenIsSaidByFives() {
        by(TERMS, "PLAIN, if 5 divides m, else 0");
        loudness(4, 9, "90000 80000 70000 60000 40000 30000");
        loudness(4, 4, "40000 30000 20000 10000 00000 00000");
    }

    static void termsDoorIsStillInOddMinutes() {
        by(TERMS, "SHOUT, if m is an even number, else 0");
        loudness(5, 9, "d0d0 8080 7070 6060 5050 4040 3030 20");
        loudness(5, 1, "5050 0000 0000 0000 0000 0000 0000 00");
    }

    // ---- Terms: what the kinds of listeners hear

    /** The kind is one of those that fit the mark that it was heard, but none of those that it was not. */
    private static void hears(int kind, int x, int y, int heard) {
        PaperHears p = told("house;ear 0 0;");
        p.mark(0, x, y, heard);
        due("kinds(0) by mark(0, " + x + ", " + y + ", " + heard + "), kind " + kind, p.kinds(0) >> kind & 1, 1);
        p.forget(2);
        p.mark(0, x, y, 1 - heard);
        due("kinds(0) by mark(0, " + x + ", " + y + ", " + (1 - heard) + "), kind " + kind, p.kinds(0) >> kind & 1, 0);
        if (x >= 1 && x <= 9 && y <= 63) {
            due(x + " beside " + y + ", kind " + kind, heardInARoom(kind, x, y), heard);
        }
    }

    /** All is plain there, so that it is as loud in the first minute as told. */
    private static int heardInARoom(int kind, int x, int y) {
        PaperHears p = new PaperHears();
        p.say(0, 0, x);
        int left = y;
        for (int s = 1; s < 8 && left > 0; s++) {
            p.say(0, 0, Math.min(9, left));
            left -= Math.min(9, left);
        }
        p.ear(kind);
        p.strips(0);
        return p.about(0, 3) & 1;
    }

    static void termsOneHearsFromOneOn() {
        by(TERMS, "one HEARS it, if that is 1 or more");
        hears(0, 0, 0, 0);
        hears(0, 1, 0, 1);
        hears(0, 2, 8, 0);
        hears(0, 3, 8, 1);
        hears(0, 1, 99, 0);
        hears(0, 20, 0, 1);
    }

    static void termsPlainOnesLoseAQuarterCut() {
        by(TERMS, "0 PLAIN: x, less a quarter (cut) of y");
        hears(0, 1, 3, 1);
        hears(0, 1, 4, 0);
        hears(0, 2, 7, 1);
        hears(0, 20, 79, 1);
        hears(0, 20, 80, 0);
    }

    static void termsCottonLosesThree() {
        by(TERMS, "1 COTTON (under PLAIN): PLAIN less 3");
        hears(1, 3, 0, 0);
        hears(1, 4, 0, 1);
        hears(1, 4, 3, 1);
        hears(1, 4, 4, 0);
        hears(1, 20, 67, 1);
        hears(1, 20, 68, 0);
    }

    static void termsYoungOnesGainTwoFromOneOn() {
        by(TERMS, "2 more than PLAIN, if x is 1 or more, else as PLAIN");
        hears(2, 0, 0, 0);
        hears(2, 1, 0, 1);
        hears(2, 1, 11, 1);
        hears(2, 1, 12, 0);
        hears(2, 0, 99, 0);
        hears(2, 20, 87, 1);
        hears(2, 20, 88, 0);
    }

    static void termsWoolGainsTwoAboveTwelve() {
        by(TERMS, "as COTTON, 2 more, if y is above 12");
        hears(3, 6, 12, 0);
        hears(3, 7, 12, 1);
        hears(3, 4, 13, 0);
        hears(3, 5, 13, 1);
        hears(3, 3, 0, 0);
        hears(3, 4, 0, 1);
        hears(3, 20, 75, 1);
        hears(3, 20, 76, 0);
    }

    static void termsEldersHearWhateverYoungOnesDo() {
        by(TERMS, "4 ELDER (under YOUNG): YOUNG, 4 at most");
        hears(4, 0, 0, 0);
        hears(4, 1, 0, 1);
        hears(4, 1, 11, 1);
        hears(4, 1, 12, 0);
        hears(4, 20, 0, 1);
        hears(4, 20, 87, 1);
        hears(4, 20, 88, 0);
    }

    static void termsSharpOnesHearTheRestByHalfCut() {
        by(TERMS, "as YOUNG would, if y were half (cut) of it");
        hears(5, 0, 0, 0);
        hears(5, 0, 99, 0);
        hears(5, 1, 0, 1);
        hears(5, 1, 23, 1);
        hears(5, 1, 24, 0);
        hears(5, 11, 99, 1);
        hears(5, 10, 99, 0);
    }

    // ---- Terms: a minute, stripping, papering

    static void termsAMinuteInARoomThatDoesNotSpeak() {
        by(TERMS, "each LISTENER who is in a ROOM that speaks HEARS what he does of all that is said there");
        PaperHears x = told("house;say 0 0 9;say 0 1 9;ear 0 0;ear 0 1;strip 1;");
        due("minutes(1)", x.minutes(1), 1);
        due("about(0, 2), in a room that does not", x.about(0, 2), 0);
        due("about(1, 2)", x.about(1, 2), 2);
        due("count(2)", x.count(2), 1);
    }

    static void termsAMinuteIsHeardAsItBegins() {
        by(TERMS, "and KNOWS that; the MINUTE is one more");
        PaperHears x = told("house;say 4 0 9;say 0 0 1;ear 0 0;strip 0;");
        due("minutes(1)", x.minutes(1), 1);
        due("about(0, 2): what is said in minute 0", x.about(0, 2), 1);
        due("about(0, 3): what is said in minute 1", x.about(0, 3), 2);
        due("minutes(1)", x.minutes(1), 2);
        due("about(0, 2): what was known, too", x.about(0, 2), 3);
    }

    static void termsStrippingAgainBeginsAnew() {
        by(TERMS, "the ROOM speaks from now on (m is 0), though it was STRIPPED before");
        PaperHears x = told("house;say 2 2 9;strip 2;minutes 29;");
        due("room(2, 0)", x.room(2, 0), 29);
        due("strips(2) as it speaks", x.strips(2), 13);
        due("room(2, 0)", x.room(2, 0), 0);
        x.minutes(30);
        due("room(2, 0)", x.room(2, 0), NONE);
        due("strips(2) as it is silent", x.strips(2), 13);
        due("room(2, 0)", x.room(2, 0), 0);
        due("strips(2) in the same minute", x.strips(2), 13);
        due("count(3)", x.count(3), 1);
    }

    static void termsPaperingEndsSpeaking() {
        by(TERMS, "PAPERING: it is not STRIPPED");
        PaperHears x = told("house;say 0 2 9;say 0 1 9;ear 0 2;strip 2;strip 1;");
        x.papers(2);
        due("room(2, 0)", x.room(2, 0), NONE);
        due("room(2, 1)", x.room(2, 1), 0);
        due("about(0, 3)", x.about(0, 3), 0);
        due("minutes(9)", x.minutes(9), 0);
        due("room(1, 0), another", x.room(1, 0), 9);
        due("count(3)", x.count(3), 1);
    }

    // ---- Terms: the text

    static void termsATextHas150BytesAtMost() {
        by(TERMS, "told by a TEXT (150 bytes at most)");
        PaperHears x = new PaperHears();
        due("read() of 150 bytes", read(x, times(144, " ") + "house;"), 1);
        due("count(9)", x.count(9), 150);
        due("type(59)", x.type(59), FULL);
        due("read() again", x.read(), 1);
        due("count(9)", x.count(9), 150);
    }

    static void termsItemsAreEndedEach() {
        by(TERMS, "each ended by ;");
        items("house;strip 0;", 2);
        fault("house strip 0;", 6);
        fault("house;strip 0 strip 1;", 14);
        fault("house;strip 0;;", 14);
    }

    static void termsHouseIsFirstOfAll() {
        by(TERMS, "house (once, first of all)");
        items("house;", 1);
        fault("strip 0;house;", 0);
        fault("house;house;", 6);
    }

    static void termsSayTellsKindRoomLoud() {
        by(TERMS, "say KIND ROOM LOUD");
        PaperHears x = told("house;say 0 0 1;say 5 3 9;");
        due("of(0, 2)", x.of(0, 2), 1);
        due("of(1, 0)", x.of(1, 0), 5);
        due("of(1, 1)", x.of(1, 1), 3);
        due("of(1, 2)", x.of(1, 2), 9);
        fault("house;say 6 3 9;", 10);
        fault("house;say 5 4 9;", 12);
        fault("house;say 5 3 0;", 14);
        fault("house;say 5 3 10;", 14);
        fault("house;say 99 3 9;", 10);
        fault("house;say 5 99 9;", 12);
        fault("house;say 5 3;", 13);
        fault("house;say 5 3 9 9;", 16);
    }

    static void termsEarTellsKindRoom() {
        by(TERMS, "ear KIND ROOM (a LISTENER, in it)");
        PaperHears x = told("house;ear 0 0;ear 5 3;");
        due("about(0, 1)", x.about(0, 1), 0);
        due("about(1, 0)", x.about(1, 0), 5);
        due("about(1, 1)", x.about(1, 1), 3);
        fault("house;ear 6 0;", 10);
        fault("house;ear 0 4;", 12);
        fault("house;ear 0;", 11);
        fault("house;ear 0 0 1;", 14);
    }

    static void termsStripTellsARoom() {
        by(TERMS, "strip r;");
        PaperHears x = told("house;strip 0;minutes 2;strip 3;");
        due("room(0, 0)", x.room(0, 0), 2);
        due("room(3, 0)", x.room(3, 0), 0);
        due("count(3)", x.count(3), 2);
        fault("house;strip 4;", 12);
        fault("house;strip;", 11);
        fault("house;strip 3 3;", 14);
    }

    static void termsPaperOfARoomThatIsNotStripped() {
        by(TERMS, "paper r (be it not STRIPPED)");
        items("house;paper 0;paper 3;", 3);
        PaperHears x = told("house;strip 3;paper 3;paper 3;strip 2;");
        due("room(3, 0)", x.room(3, 0), NONE);
        due("count(3)", x.count(3), 1);
        due("count(0)", x.count(0), 0);
        due("status(1)", x.status(1), 0);
        fault("house;paper 4;", 12);
        fault("house;paper;", 11);
    }

    static void termsMinutesAreOneTo99() {
        by(TERMS, "minutes n (1 .. 99: so many go by, where it stands)");
        due("count(2)", told("house;minutes 1;").count(2), 1);
        due("count(2)", told("house;minutes 99;").count(2), 99);
        due("count(2)", told("house;" + times(14, "minutes99;")).count(2), 1386);
        fault("house;minutes 0;", 14);
        fault("house;minutes 00;", 14);
        fault("house;minutes 100;", 14);
        fault("house;minutes;", 13);
        fault("house;minutes 1 1;", 16);
        due("count(4), said too late", told("house;ear 0 0;strip 0;minutes 30;say 0 0 9;").count(4), 0);
        due("count(4), come too late", told("house;say 0 0 9;strip 0;minutes 30;ear 0 0;").count(4), 0);
        due("count(4), in time", told("house;say 0 0 9;strip 0;minutes 29;ear 0 0;minutes 1;").count(4), 1);
    }

    static void termsWordsAreOfLettersAToZ() {
        by(TERMS, "words of letters a .. z");
        fault("house;Strip 0;", 6);
        fault("house;strip@0;", 11);
        fault("house;strip[0;", 11);
        fault("house;strip`0;", 11);
        fault("house;strip{0;", 11);
        fault("house;stripz 0;", 6);
        fault("house;astrip 0;", 6);
        fault("house;stri p 0;", 6);
    }

    static void termsOneOrTwoFiguresAreANumber() {
        by(TERMS, "figures (1 or 2 are one number)");
        PaperHears x = told("house;say 05 03 09;say 00 00 01;minutes 90;minutes 09;");
        due("of(0, 0)", x.of(0, 0), 5);
        due("of(0, 1)", x.of(0, 1), 3);
        due("of(0, 2)", x.of(0, 2), 9);
        due("of(1, 2)", x.of(1, 2), 1);
        due("count(2)", x.count(2), 99);
        fault("house;strip /;", 12);
        fault("house;strip :;", 12);
        fault("house;say 531;", 10);
        fault("house;ear 53;", 10);
    }

    static void termsBlanksMayBeAnywhereBetweenTokens() {
        by(TERMS, "blanks (32), any number, ahead of, between and behind TOKENS");
        items("   house   ;   strip   0   ;   minutes   9   ;   ", 3);
        items(times(70, " ") + "house" + times(74, " ") + ";", 1);
        items("house;" + times(144, " "), 1);
        fault("house;strip 0\t;", 13);
        fault("house;strip 0\n;", 13);
        fault("house;\u001fstrip 0;", 6);
        fault("house;!strip 0;", 6);
        fault("house;minutes 1 2;", 16);
    }

    static void termsBlanksAreNeededOnlyBetweenTwoNumbers() {
        by(TERMS, "(needed only between two words, two numbers)");
        items("house;say0 0 1;ear0 0;strip0;paper0;minutes1;", 6);
        fault("house;say0 01;", 13);
        fault("house;say00 1;", 13);
        fault("house;ear00;", 11);
        fault("housestrip0;", 0);
    }

    static void termsFaultOfAWordThatIsNone() {
        by(TERMS, "(a word that is none");
        fault("hous;", 0);
        fault("houses;", 0);
        fault("mouse;", 0);
        fault("house;says 0 0 1;", 6);
        fault("house;day 0 0 1;", 6);
        fault("house;sax 0 0 1;", 6);
        fault("house;sa", 6);
        fault("house;a;", 6);
        fault("house;tar 0 0;", 6);
        fault("house;ears 0 0;", 6);
        fault("house;scrip 0;", 6);
        fault("house;strap 0;", 6);
        fault("house;taper 0;", 6);
        fault("house;papers 0;", 6);
        fault("house;ninutes 1;", 6);
        fault("house;strip 0;minute 1;", 14);
        fault("house;strip zero;", 12);
        fault("house;say door 0 1;", 10);
        fault("house;strip strip 0;", 12);
        fault("house;strip 0 a;", 14);
    }

    static void termsFaultOfHouseAgain() {
        by(TERMS, "house again");
        fault("house;house;", 6);
        fault("house house;", 6);
        fault("house;strip 0;  house;", 16);
    }

    static void termsFaultAheadOfHouse() {
        by(TERMS, "anything ahead of it");
        fault(";house;", 0);
        fault("  7 house;", 2);
        fault("minutes 1;house;", 0);
        fault("say 0 0 1;", 0);
        fault("?house;", 0);
        fault("111;house;", 0);
    }

    static void termsFaultOfANinthSay() {
        by(TERMS, "a 9th say");
        String eight = "house;" + times(8, "say 0 0 1;");
        items(eight, 9);
        items(eight + "strip 0;", 10);
        fault(eight + "say 0 0 1;", 86);
        fault(eight + "say", 86);
        fault(eight + " say 9", 87);
        fault(eight + "strip 0;say 0 0 1;", 94);
        fault("house;" + times(7, "say 0 0 1;") + "say 0 0 1 say", 86);
    }

    static void termsFaultOfAFourthEar() {
        by(TERMS, "a 4th ear at its word");
        String three = "house;" + times(3, "ear 0 0;");
        items(three, 4);
        items(three + "say 0 0 1;", 5);
        fault(three + "ear 0 0;", 30);
        fault(three + "ear", 30);
        fault(three + " ear 9", 31);
        fault(three + "say 0 0 1;ear 0 0;", 40);
    }

    static void termsFaultOfARunOfThreeFigures() {
        by(TERMS, "a run of three figures or more (at its first one)");
        fault("house;minutes 100;", 14);
        fault("house;minutes 001;", 14);
        fault("house;minutes 0001;", 14);
        fault("house;minutes100", 13);
        fault("house;minutes 12345678901234567890;", 14);
        fault("house;minutes 4294967297;", 14);
        fault("house;say 000 0 1;", 10);
        fault("house;say 0 000 1;", 12);
        fault("house;ear 0 000;", 12);
        fault("house;strip 000;", 12);
        fault("house;paper 000;", 12);
        fault("house;strip 0 000;", 14);
        fault("house;" + times(144, "1"), 6);
        fault("house;strip " + times(138, "0"), 12);
    }

    static void termsFaultOfANumberNotAsTold() {
        by(TERMS, "a number not as told");
        fault("house;say 06 0 1;", 10);
        fault("house;say 0 04 1;", 12);
        fault("house;say 0 0 00;", 14);
        fault("house;say 9 9 99;", 10);
        fault("house;strip 10;", 12);
        fault("house;strip 4", 12);
        fault("house;0;", 6);
        fault("house;strip;0", 11);
    }

    static void termsFaultOfAByteThatBeginsNone() {
        by(TERMS, "a byte that begins none, too");
        for (char c = 0; c < 128; c++) {
            boolean letter = c >= 'a' && c <= 'z';
            boolean figure = c >= '0' && c <= '9';
            if (!letter && !figure && c != ' ' && c != ';') {
                fault("house;" + c, 6);
                fault("house;strip 1" + c + ";", 13);
                fault(c + "house;", 0);
            }
        }
    }

    static void termsFaultOfATextThatEndsTooEarly() {
        by(TERMS, "the TEXT's length, if it ends too early");
        fault("house", 5);
        fault("house  ", 7);
        fault("house;say", 9);
        fault("house;say 0", 11);
        fault("house;say 0 0", 13);
        fault("house;say 0 0 1", 15);
        fault("house;say 0 0 1   ", 18);
        fault("house;ear 0 0", 13);
        fault("house;strip 0", 13);
        fault("house;paper", 11);
        fault("house;minutes 9", 15);
        fault("house;minutes 99", 16);
        fault("house;minutes 99" + times(134, " "), 150);
    }

    static void termsFaultOfAnEmptyText() {
        by(TERMS, "(an empty one, too)");
        fault("", 0);
        fault(" ", 1);
        fault(times(150, " "), 150);
    }

    static void termsAHouseThatIsReadTakesThePlaceOfAll() {
        by(TERMS, "A HOUSE that is read takes the place of all but IMAGES, THE TEXT, THE FRACTION, STATUS");
        PaperHears x = eightAndThree();
        x.strips(0);
        x.image(0);
        x.minutes(5);
        x.holds(0, 0, 5);
        x.say(0, 0, 1);
        x.undo();
        x.undo();
        x.undo();
        due("read()", read(x, "house;"), 1);
        for (int what = 0; what < 9; what++) {
            due("count(" + what + ")", x.count(what), 0);
        }
        due("count(9)", x.count(9), 6);
        due("part(1)", x.part(1), 2);
        refused("read()", x, 0, 1, 1);
        due("from(0)", x.from(0), 1);
        due("count(0)", x.count(0), 8);
        due("room(0, 0)", x.room(0, 0), 0);
    }

    static void termsAHouseThatIsReadHasNothingTold() {
        by(TERMS, "(TOLD ones, NOTES, MARKS none; nothing to undo)");
        PaperHears x = twoAndTwo();
        x.told(0, 0, 9);
        x.note(0, 1, 0, 9);
        x.mark(0, 1, 0, 0);
        x.minutes(1);
        due("read()", read(x, "house;say 0 0 1;ear 0 0;strip 0;minutes 1;"), 5);
        due("count(5)", x.count(5), 0);
        due("count(6)", x.count(6), 0);
        due("count(7)", x.count(7), 0);
        due("count(8)", x.count(8), 0);
        due("undo()", x.undo(), NO);
        due("is(0)", x.is(0), 63);
        due("kinds(0)", x.kinds(0), 63);
        due("said(0, 0)", x.said(0, 0), 2);
    }
}
