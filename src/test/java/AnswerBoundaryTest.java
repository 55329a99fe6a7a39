import java.math.BigInteger;
import java.util.ArrayList;
import java.util.List;

/** The boundaries that the document's Terms name for what is heard, said and refused, for jobs, undoing and images. */
public final class AnswerBoundaryTest extends Sentences {
    public static void main(String[] args) throws Exception {
        check(AnswerBoundaryTest.class, DOCUMENT, TERMS);
    }

    // ---- Terms: what is heard

    static void termsQuestionsGoBeyondTheLastMinute() {
        by(TERMS, "MINUTES go beyond 9999 in them");
        PaperHears x = atLast(HEARD_AT_29 + "ear 0 0;ear 0 0;");
        x.strips(0);
        due("first(0, 0)", x.first(0, 0), 29);
        due("stay(0, 1, 0, -1)", x.stay(0, 1, 0, -1), 3000);
        due("stand(30, 0)", x.stand(30, 0), 5);
        due("count(2)", x.count(2), 9999);
        due("minutes(99)", x.minutes(99), 0);
        PaperHears y = atLast("house;say 4 0 9;say 0 0 1;ear 0 0;");
        y.strips(0);
        int seed = seedOf(new int[] {1, 2, 1}, null);
        due("jobs(" + seed + ", 1)", y.jobs(seed, 1), 1);
        due("jobs(" + seed + ", 3)", y.jobs(seed, 3), 2);
        due("count(2)", y.count(2), 9999);
    }

    static void termsLoudnessOfASayingHasThirtyMinutes() {
        by(TERMS, "LOUDNESS of a SAYING behind m (0 .. 29) MINUTES of its ROOM");
        PaperHears x = twoAndTwo();
        due("loud(0, 0)", x.loud(0, 0), 9);
        due("loud(0, 29)", x.loud(0, 29), 2);
        due("loud(0, 30)", x.loud(0, 30), BAD);
        due("loud(0, -1)", x.loud(0, -1), BAD);
    }

    static void termsLoudnessOfARoomThatDoesNotSpeak() {
        by(TERMS, "(all that is said in it together; 0: it does not speak)");
        PaperHears x = told("house;" + times(8, "say 2 3 9;"));
        due("room(3, 1), not stripped", x.room(3, 1), 0);
        x.strips(3);
        x.strips(2);
        due("room(3, 1)", x.room(3, 1), 104);
        due("room(2, 1), nothing said", x.room(2, 1), 0);
        x.minutes(29);
        due("room(3, 1) at 29", x.room(3, 1), 16);
        x.minutes(1);
        due("room(3, 1), silent", x.room(3, 1), 0);
    }

    static void termsHearsAsBits() {
        by(TERMS, "HEARS of a LISTENER now (bits)");
        PaperHears x = told("house;say 0 3 1;" + times(7, "say 0 0 9;") + "ear 5 0;ear 0 3;ear 0 1;strip 0;strip 3;strip 1;");
        due("about(0, 3): all but the first", x.about(0, 3), 254);
        due("about(1, 3): the first", x.about(1, 3), 1);
        due("about(2, 3): nothing is said", x.about(2, 3), 0);
        PaperHears y = told("house;" + times(8, "say 0 0 9;") + "ear 5 0;strip 0;");
        due("about(0, 3): all eight", y.about(0, 3), 255);
    }

    static void termsFirstIsNowOrMuchLater() {
        by(TERMS, "in how many MINUTES (0 .. 40)");
        PaperHears x = told(HEARD_AT_29 + "ear 0 0;strip 0;");
        due("first(0, 0)", x.first(0, 0), 29);
        due("first(0, 1)", x.first(0, 1), 1);
        x.minutes(28);
        due("first(0, 0) a minute ahead", x.first(0, 0), 1);
        due("first(0, 1): no more", x.first(0, 1), NONE);
        x.minutes(1);
        due("first(0, 0) at 29", x.first(0, 0), 0);
        due("about(0, 3)", x.about(0, 3) & 1, 1);
        x.minutes(1);
        due("first(0, 0) too late", x.first(0, 0), NONE);
    }

    static void termsFirstIsNowIfItIsHeardAllTheTime() {
        by(TERMS, "FIRST: in how many MINUTES (0 .. 40), nobody going, nothing stripped, papered");
        PaperHears x = told("house;say 0 2 9;say 0 1 9;ear 0 2;ear 0 0;strip 2;");
        for (int m = 0; m < 30; m++) {
            due("first(0, 0) at " + m, x.first(0, 0), 0);
            due("first(0, 1), in a room not gone to, not stripped", x.first(0, 1), NONE);
            due("first(1, 0), who does not go there", x.first(1, 0), NONE);
            x.minutes(1);
        }
        due("first(0, 0) at 30", x.first(0, 0), NONE);
    }

    static void termsFirstOfWhatIsNeverHeard() {
        by(TERMS, "a LISTENER HEARS a SAYING first; none");
        PaperHears x = told("house;say 0 0 9;say 0 1 9;say 0 0 1;say 0 3 9;ear 1 0;");
        due("first(0, 0), not stripped", x.first(0, 0), NONE);
        x.strips(0);
        x.strips(1);
        due("first(0, 0)", x.first(0, 0), 0);
        due("first(0, 1), in another room", x.first(0, 1), NONE);
        due("first(0, 2), too low", x.first(0, 2), NONE);
        due("first(0, 3), in another that is not stripped", x.first(0, 3), NONE);
        x.minutes(30);
        due("first(0, 0), silent", x.first(0, 0), NONE);
        due("first(0, 0), though known", x.about(0, 2), 1);
    }

    static void termsStayIsForSetsOfNoneInBoth() {
        by(TERMS, "two sets of SAYINGS (of none in both)");
        PaperHears x = eightAndThree();
        due("stay(0, 1, 1, 0)", x.stay(0, 1, 1, 0), BAD);
        due("stay(0, 255, 128, 0)", x.stay(0, 255, 128, 0), BAD);
        due("stay(0, 129, 255, -1)", x.stay(0, 129, 255, -1), BAD);
        due("stay(0, 1, 254, 0)", x.stay(0, 1, 254, 0), NONE);
        due("stay(0, 0, 255, 0)", x.stay(0, 0, 255, 0), 0);
        due("stay(0, 255, 0, 0)", x.stay(0, 255, 0, 0), NONE);
        due("stay(0, 0, 0, 0), both empty", x.stay(0, 0, 0, 0), 0);
        refused("stay", x, 3, 0, 0);
    }

    static void termsStayIsThirtyMinutesAtMost() {
        by(TERMS, "the fewest MINUTES (0 .. 30) behind which he KNOWS all of the first");
        PaperHears x = told(HEARD_AT_29 + "ear 0 3;");
        due("stay(0, 0, 0, 0)", x.stay(0, 0, 0, 0), 0);
        due("stay(0, 2, 0, 0)", x.stay(0, 2, 0, 0), 2);
        due("stay(0, 1, 0, 0)", x.stay(0, 1, 0, 0), 30);
        due("stay(0, 3, 0, 0)", x.stay(0, 3, 0, 0), 30);
        due("stay(0, 32, 0, 0), a door over which too much is", x.stay(0, 32, 0, 0), NONE);
        due("stay(0, 1, 2, 0), another on the way", x.stay(0, 1, 2, 0), NONE);
        due("stay(0, 1, 0, 1), in another room", x.stay(0, 1, 0, 1), NONE);
    }

    static void termsStayCountsWhatIsKnownNow() {
        by(TERMS, "(what he KNOWS now counts, too)");
        PaperHears x = told("house;say 0 1 9;say 0 2 9;ear 0 1;strip 1;minutes 1;");
        due("stay(0, 1, 0, 3)", x.stay(0, 1, 0, 3), 0);
        due("stay(0, 3, 0, 2)", x.stay(0, 3, 0, 2), 1);
        due("stay(0, 3, 0, 1)", x.stay(0, 3, 0, 1), NONE);
        due("stay(0, 3, 0, -1)", x.stay(0, 3, 0, -1), 102);
    }

    static void termsStayLooksAtWhatIsHeardInThemOnly() {
        by(TERMS, "has HEARD none of the second in them");
        PaperHears x = told("house;say 0 1 9;say 0 2 9;say 4 1 9;say 0 1 1;ear 0 1;strip 1;minutes 1;");
        due("about(0, 2)", x.about(0, 2), 5);
        due("stay(0, 2, 1, 2), known already", x.stay(0, 2, 1, 2), 1);
        due("stay(0, 0, 4, 1), before anything is heard", x.stay(0, 0, 4, 1), 0);
        due("stay(0, 8, 1, 1), heard on the way", x.stay(0, 8, 1, 1), NONE);
        due("stay(0, 1, 4, 1), known now", x.stay(0, 1, 4, 1), 0);
        PaperHears y = told("house;say 2 0 1;say 3 0 1;ear 1 0;");
        due("stay(0, 1, 2, 0), the other is never heard", y.stay(0, 1, 2, 0), 1);
        due("stay(0, 2, 1, 0), and it is never known", y.stay(0, 2, 1, 0), NONE);
        PaperHears z = told("house;say 4 0 9;say 0 0 1;ear 0 0;");
        due("stay(0, 1, 2, 0), gone in time", z.stay(0, 1, 2, 0), 1);
        due("stay(0, 2, 1, 0), but not the other way", z.stay(0, 2, 1, 0), NONE);
    }

    static void termsStayIsAsIfStrippedNow() {
        by(TERMS, "were he in a ROOM, STRIPPED now, all that time");
        PaperHears x = told("house;say 4 1 9;say 0 2 9;ear 0 3;ear 0 1;strip 1;minutes 1;");
        due("stay(0, 1, 0, 1), it speaks, but not of that", x.stay(0, 1, 0, 1), 1);
        due("stay(0, 2, 0, 2), it does not speak", x.stay(0, 2, 0, 2), 1);
        due("stay(0, 2, 0, 1), he does not go on", x.stay(0, 2, 0, 1), NONE);
        x.minutes(28);
        due("stay(0, 1, 0, -1), it is in its last minute", x.stay(0, 1, 0, -1), 101);
        x.minutes(1);
        due("stay(0, 1, 0, -1), it is silent", x.stay(0, 1, 0, -1), 101);
        due("room(1, 0), silent still", x.room(1, 0), NONE);
        due("about(0, 1), there still", x.about(0, 1), 3);
    }

    static void termsStayIsInTheFirstOfLikeRooms() {
        by(TERMS, "the best ROOM is that with the fewest MINUTES, of like ones the first; none");
        PaperHears x = eightAndThree();
        due("stay(0, 0, 0, -1), of four like ones", x.stay(0, 0, 0, -1), 0);
        due("stay(0, 64, 0, -1), the last room", x.stay(0, 64, 0, -1), 103);
        due("stay(0, 1, 0, -1), the first room", x.stay(0, 1, 0, -1), 100);
        due("stay(0, 65, 0, -1), no room", x.stay(0, 65, 0, -1), NONE);
        due("stay(0, 1, 2, -1), heard at once with it", x.stay(0, 1, 2, -1), NONE);
    }

    static void termsStandIsForOneToThirtyMinutes() {
        by(TERMS, "STAND for n (1 .. 30)");
        PaperHears x = told(HEARD_AT_29 + "ear 0 0;ear 0 0;");
        due("stand(0, 0)", x.stand(0, 0), BAD);
        due("stand(1, 0)", x.stand(1, 0), 0);
        due("stand(2, 0)", x.stand(2, 0), 4);
        due("stand(29, 0)", x.stand(29, 0), 4);
        due("stand(30, 0)", x.stand(30, 0), 5);
        due("stand(31, 0)", x.stand(31, 0), BAD);
    }

    static void termsStandNeedsTwo() {
        by(TERMS, "a ROOM for each of LISTENERS 0 and 1 (NO: one is not there)");
        PaperHears x = told("house;say 0 1 9;");
        due("stand(1, 0), nobody", x.stand(1, 0), NO);
        x.ear(0);
        due("stand(1, 0), one", x.stand(1, 0), NO);
        x.ear(0);
        due("stand(1, 0), two", x.stand(1, 0), 1);
        refused("stand", x, 0, 2, 0);
    }

    static void termsStandLeavesTheThirdOut() {
        by(TERMS, "so that both together KNOW most SAYINGS behind n MINUTES");
        PaperHears x = told("house;say 0 1 9;say 0 2 9;say 0 3 9;ear 0 0;ear 0 0;ear 0 1;strip 1;minutes 1;");
        due("about(2, 2)", x.about(2, 2), 1);
        due("stand(1, 0)", x.stand(1, 0), 2);
        due("stand(1, 1)", x.stand(1, 1), 12);
    }

    static void termsStandIsAsIfAllWereStrippedNow() {
        by(TERMS, "all ROOMS STRIPPED now");
        PaperHears x = told("house;say 4 1 9;say 0 2 9;ear 0 3;ear 0 3;strip 1;minutes 1;");
        due("stand(1, 0), one speaks, but not of that", x.stand(1, 0), 2);
        due("stand(1, 1), one speaks, but not of that", x.stand(1, 1), 12);
        x.minutes(28);
        due("stand(1, 0), one is in its last minute", x.stand(1, 0), 2);
        x.minutes(1);
        due("stand(1, 0), none speaks", x.stand(1, 0), 2);
        due("count(3)", x.count(3), 1);
        due("room(1, 0), silent still", x.room(1, 0), NONE);
    }

    static void termsStandCountsWhatIsKnownNow() {
        by(TERMS, "both together KNOW most SAYINGS");
        PaperHears x = told("house;say 0 1 9;say 0 2 9;say 0 3 9;ear 0 1;ear 0 1;strip 1;minutes 1;");
        due("stand(1, 0)", x.stand(1, 0), 3);
        due("stand(1, 1)", x.stand(1, 1), 23);
        PaperHears y = told("house;say 0 1 9;say 0 2 9;say 0 3 9;ear 1 0;ear 1 1;strip 1;minutes 1;");
        due("stand(1, 0), known to the other", y.stand(1, 0), 3);
        due("stand(1, 1), known to the other", y.stand(1, 1), 23);
    }

    static void termsStandByWhatEachWouldHear() {
        by(TERMS, "STAND for n (1 .. 30): a ROOM for each of LISTENERS 0 and 1");
        due("stand(1, 1): the other hears but the louder", told("house;say 0 1 9;say 0 3 2;ear 0 0;ear 1 0;").stand(1, 1), 31);
        due("stand(1, 1): the one hears but the louder", told("house;say 0 1 9;say 0 3 2;ear 1 0;ear 0 0;").stand(1, 1), 13);
        due("stand(1, 0): neither hears the lower", told("house;say 0 1 9;say 0 3 2;ear 1 0;ear 1 0;").stand(1, 0), 1);
        due("stand(1, 1): the one hears more in the last room", told("house;say 0 3 9;say 0 3 2;ear 5 0;ear 1 0;").stand(1, 1), 30);
        due("stand(1, 1): the other hears more there", told("house;say 0 3 9;say 0 3 2;ear 1 0;ear 5 0;").stand(1, 1), 3);
    }

    static void termsStandIsTheLeastOfLikePairs() {
        by(TERMS, "10 times the one's and the other's ROOM (of like ones the least)");
        PaperHears x = new PaperHears();
        x.ear(0);
        x.ear(0);
        due("stand(30, 0), nothing said", x.stand(30, 0), 0);
        due("stand(30, 1), nothing said", x.stand(30, 1), 0);
        x.say(0, 3, 9);
        due("stand(1, 1): the other in the last room", x.stand(1, 1), 3);
        x.say(0, 2, 9);
        due("stand(1, 1): one in each", x.stand(1, 1), 23);
        x.say(0, 3, 9);
        due("stand(1, 0)", x.stand(1, 0), 3);
        PaperHears y = told("house;say 0 3 9;ear 0 0;ear 0 0;strip 3;minutes 1;");
        y.goes(0, 3);
        y.minutes(1);
        due("stand(1, 0), known already", y.stand(1, 0), 1);
        due("stand(1, 1), known already", y.stand(1, 1), 0);
    }

    // ---- Terms: what was said

    static void termsToldOnesAreFive() {
        by(TERMS, "TOLD 0 .. 4, as they come");
        PaperHears x = new PaperHears();
        for (int k = 1; k <= 5; k++) {
            due("told()", x.told(0, 0, 0), k);
        }
        due("a 6th", x.told(0, 0, 0), FULL);
        due("count(5)", x.count(5), 5);
        due("forget(0)", x.forget(0), 5);
        due("told() anew", x.told(0, 0, 0), 1);
    }

    static void termsToldMinutesAndLoudnessHaveBounds() {
        by(TERMS, "in the minute m (0 .. 29) of a ROOM all was so loud together: x (0 .. 99)");
        bounds("told", Sentences::eightAndThree, (x, a) -> x.told(a[0], a[1], a[2]), 0, 3, 0, 29, 0, 99);
        PaperHears x = told("house;" + times(8, "say 2 0 9;"));
        x.told(0, 0, 99);
        due("said(0, 0): 13 times 8 would be 104", x.said(0, 0), 0);
        x.forget(0);
        x.told(0, 29, 16);
        due("said(0, 1) by the last minute", x.said(0, 1), 255);
    }

    static void termsSaidMayBeNothing() {
        by(TERMS, "(some may not have been said)");
        PaperHears x = told("house;say 0 0 9;say 0 1 9;");
        due("said(0, 0)", x.said(0, 0), 2);
        due("said(0, 1)", x.said(0, 1), 0);
        due("said(0, 2)", x.said(0, 2), 1);
        x.told(0, 0, 0);
        due("said(0, 0), by nothing loud", x.said(0, 0), 1);
        due("said(0, 1), by nothing loud", x.said(0, 1), 0);
        due("said(0, 2), by nothing loud", x.said(0, 2), 0);
        due("said(3, 0), an empty room", x.said(3, 0), 1);
    }

    static void termsSaidFitsAllToldOfThatRoom() {
        by(TERMS, "by which all TOLD of it are so");
        PaperHears x = told("house;say 0 0 2;say 0 0 3;say 0 0 5;say 0 3 5;");
        x.told(0, 0, 5);
        due("said(0, 0)", x.said(0, 0), 2);
        x.told(0, 8, 4);
        due("said(0, 0): both are 3 at 8", x.said(0, 0), 0);
        x.forget(0);
        x.told(0, 0, 5);
        x.told(0, 8, 3);
        due("said(0, 0): the one of 5", x.said(0, 0), 1);
        due("said(0, 1)", x.said(0, 1), 4);
        x.told(3, 0, 1);
        due("said(0, 0), though another room's is not so", x.said(0, 0), 1);
        due("said(3, 0)", x.said(3, 0), 0);
    }

    static void termsSaidOfAllEight() {
        by(TERMS, "SAYINGS (bits) in all of them, in some");
        PaperHears x = told("house;" + times(8, "say 0 2 1;"));
        due("said(2, 0)", x.said(2, 0), 256);
        due("said(2, 1)", x.said(2, 1), 0);
        due("said(2, 2)", x.said(2, 2), 255);
        x.told(2, 3, 8);
        due("said(2, 0), all", x.said(2, 0), 1);
        due("said(2, 1), all", x.said(2, 1), 255);
        due("said(2, 2), all", x.said(2, 2), 255);
        x.forget(0);
        x.told(2, 3, 1);
        due("said(2, 0), one of them", x.said(2, 0), 8);
        due("said(2, 1), one of them", x.said(2, 1), 0);
        due("said(2, 2), one of them", x.said(2, 2), 255);
        x.told(2, 4, 1);
        due("said(2, 1), none at 4", x.said(2, 1), NONE);
        due("said(2, 2), none at 4", x.said(2, 2), 0);
    }

    static void termsNotesAreSix() {
        by(TERMS, "NOTES 0 .. 5, as they come");
        PaperHears x = twoAndTwo();
        for (int k = 1; k <= 6; k++) {
            due("note()", x.note(0, 1, 0, 1), k);
        }
        due("a 7th", x.note(0, 1, 0, 1), FULL);
        due("count(6)", x.count(6), 6);
        due("forget(1)", x.forget(1), 6);
        due("note() anew", x.note(0, 1, 0, 1), 1);
    }

    static void termsNotesHaveBounds() {
        by(TERMS, "a SAYING that is LOUD l (1 .. 9) was x (0 .. 20) loud in minute m (0 .. 29)");
        bounds("note", Sentences::twoAndTwo, (x, a) -> x.note(a[0], a[1], a[2], a[3]), 0, 1, 1, 9, 0, 29, 0, 20);
        bounds("note", Sentences::eightAndThree, (x, a) -> x.note(a[0], a[1], a[2], a[3]), 0, 7, 1, 9, 0, 29, 0, 20);
    }

    static void termsIsOfNoNoteAndOfNoKind() {
        by(TERMS, "KINDS (bits) by which all NOTES of one are so");
        PaperHears x = twoAndTwo();
        due("is(0), no note", x.is(0), 63);
        x.note(1, 9, 0, 20);
        due("is(0), a note of another", x.is(0), 63);
        due("is(1), no kind", x.is(1), 0);
        x.note(0, 9, 29, 0);
        due("is(0): have you seen, door", x.is(0), 48);
        x.note(0, 9, 2, 13);
        due("is(0): door", x.is(0), 32);
        x.note(0, 1, 29, 3);
        due("is(0): none", x.is(0), 0);
    }

    static void termsLookIsTheLeastOfLikeMinutes() {
        by(TERMS, "the most of these KINDS that are as loud are fewest; of like ones the least");
        PaperHears x = told("house;say 0 0 9;say 0 0 1;");
        due("look(0), all kinds: two at most from 0 on", x.look(0), 0);
        due("look(1), all kinds: 1 1 5 1 1 5, then 1 1 5 1 0 0", x.look(1), 1);
        x.note(0, 9, 3, 5);
        due("look(0), whisper or goodbye: apart from 20 on", x.look(0), 20);
        x.note(1, 9, 3, 0);
        due("look(1), have you seen or door: apart at once", x.look(1), 0);
        x.note(0, 9, 20, 5);
        due("look(0), one kind", x.look(0), 0);
        PaperHears y = told("house;say 0 0 9;say 0 0 9;");
        y.note(0, 9, 25, 3);
        y.note(0, 9, 0, 9);
        due("is(0)", y.is(0), 17);
        due("look(0), plain or have you seen: apart from 1 on", y.look(0), 1);
        y.note(1, 9, 2, 13);
        due("is(1)", y.is(1), 36);
        due("look(1), shout or door: apart from 1 on", y.look(1), 1);
    }

    static void termsLookOfNoKind() {
        by(TERMS, "none: no KIND. MARKS");
        PaperHears x = twoAndTwo();
        x.note(0, 9, 0, 20);
        due("look(0)", x.look(0), NONE);
        due("look(1), of another", x.look(1), 0);
        refused("look", x, 0, 0, 0);
    }

    static void termsMarksAreSix() {
        by(TERMS, "MARKS 0 .. 5, as they come");
        PaperHears x = twoAndTwo();
        for (int k = 1; k <= 6; k++) {
            due("mark()", x.mark(0, 1, 0, 1), k);
        }
        due("a 7th", x.mark(0, 1, 0, 1), FULL);
        due("count(7)", x.count(7), 6);
        due("forget(2)", x.forget(2), 6);
        due("mark() anew", x.mark(0, 1, 0, 1), 1);
    }

    static void termsMarksHaveBounds() {
        by(TERMS, "a LISTENER HEARD (1) or not (0) what was x (0 .. 20) loud, the rest y (0 .. 99)");
        bounds("mark", Sentences::twoAndTwo, (x, a) -> x.mark(a[0], a[1], a[2], a[3]), 0, 1, 0, 20, 0, 99, 0, 1);
        bounds("mark", Sentences::eightAndThree, (x, a) -> x.mark(a[0], a[1], a[2], a[3]), 0, 2, 0, 20, 0, 99, 0, 1);
    }

    static void termsWhatOfNoMarkAndOfNoKind() {
        by(TERMS, "KINDS of LISTENERS (bits) by which all MARKS of one are so");
        PaperHears x = twoAndTwo();
        due("kinds(0), no mark", x.kinds(0), 63);
        x.mark(1, 0, 0, 1);
        due("kinds(0), a mark of another", x.kinds(0), 63);
        due("kinds(1), no kind", x.kinds(1), 0);
        x.mark(0, 0, 99, 0);
        due("kinds(0), what nobody hears", x.kinds(0), 63);
        x.mark(0, 20, 0, 1);
        due("kinds(0), what all hear", x.kinds(0), 63);
        x.mark(0, 1, 23, 1);
        due("kinds(0): sharp", x.kinds(0), 32);
        x.mark(0, 1, 0, 0);
        due("kinds(0): none", x.kinds(0), 0);
    }

    static void termsAskIsTheLeastOfLikeOnes() {
        by(TERMS, "the greater part of these KINDS is least; of like ones the least");
        PaperHears x = told("house;ear 0 0;ear 0 0;ear 0 0;");
        due("ask(0), all kinds: three and three", x.ask(0), 104);
        x.mark(0, 1, 4, 0);
        due("ask(0), plain, cotton, wool: one and two", x.ask(0), 100);
        x.mark(0, 1, 0, 0);
        due("ask(0), cotton or wool: apart above 12", x.ask(0), 513);
        x.mark(0, 5, 13, 1);
        due("ask(0), wool", x.ask(0), 0);
        x.mark(1, 3, 12, 1);
        x.mark(1, 1, 12, 0);
        due("ask(1), young or elder: never apart", x.ask(1), 0);
        x.mark(2, 3, 12, 1);
        due("ask(2), young, elder or sharp", x.ask(2), 112);
    }

    static void termsAskOfNoKind() {
        by(TERMS, "none: no KIND.\n  BROTHERS");
        PaperHears x = twoAndTwo();
        x.mark(0, 0, 0, 1);
        due("ask(0)", x.ask(0), NONE);
        due("ask(1), of another", x.ask(1), 104);
        refused("ask", x, 0, 0, 0);
    }

    static void termsAskIsWithinNineAndSixty() {
        by(TERMS, "100 x and y (x 0 .. 9, y 0 .. 60)");
        for (int x = 0; x <= 9; x++) {
            for (int y = 0; y <= 60; y += 3) {
                PaperHears p = told("house;ear 0 0;");
                p.mark(0, x, y, 1);
                int answer = p.ask(0);
                boolean within = answer >= 0 && answer / 100 <= 9 && answer % 100 <= 60;
                due("ask(0) by mark(0, " + x + ", " + y + ", 1) is none or within: " + answer,
                    within || answer == NONE ? 1 : 0, 1);
                due("ask(0) is none, if nobody hears it", answer == NONE ? 0 : 1, p.kinds(0) == 0 ? 0 : 1);
            }
        }
    }

    static void termsBrothersAreTwo() {
        by(TERMS, "BROTHERS: LISTENERS 0, 1 (NO: one is not there)");
        PaperHears x = new PaperHears();
        due("brothers(-1), nobody", x.brothers(-1), NO);
        x.ear(0);
        due("brothers(-1), one", x.brothers(-1), NO);
        due("brothers(0), one", x.brothers(0), NO);
        x.ear(0);
        due("brothers(-1), two", x.brothers(-1), 12);
        x.ear(0);
        due("brothers(-1), three", x.brothers(-1), 12);
        refused("brothers", x, 0, 3, 0);
    }

    static void termsBrothersWhereNoRoomSpeaks() {
        by(TERMS, "choose a ROOM each, i, j, now (as it speaks or not)");
        PaperHears x = told("house;say 0 2 9;say 0 2 9;ear 0 0;ear 0 0;");
        due("brothers(-1), not stripped", x.brothers(-1), 12);
        x.strips(2);
        due("brothers(-1), it speaks", x.brothers(-1), 1);
        due("brothers(0)", x.brothers(0), 22);
        x.minutes(29);
        due("brothers(-1) at 29", x.brothers(-1), 1);
        x.minutes(1);
        due("brothers(-1), silent", x.brothers(-1), 12);
        x.strips(2);
        x.papers(2);
        due("brothers(-1), papered", x.brothers(-1), 12);
    }

    static void termsBrothersLoseOneInOneRoom() {
        by(TERMS, "less 1, if both are in one");
        PaperHears x = told("house;say 0 2 9;ear 0 0;ear 1 0;strip 2;");
        due("brothers(-1): 1 less 1 is as good as none elsewhere", x.brothers(-1), 7);
        PaperHears y = told("house;say 0 2 9;say 0 2 9;ear 0 0;ear 1 0;strip 2;");
        due("brothers(-1): 2 less 1 is better", y.brothers(-1), 1);
        PaperHears z = new PaperHears();
        z.ear(0);
        z.ear(0);
        for (int k = 0; k < 12; k++) {
            due("brothers(" + k + "): never both in one, as there is nothing", z.brothers(k) % 11 == 0 ? 1 : 0, 0);
        }
    }

    static void termsBrothersByWhatEachHears() {
        by(TERMS, "to each how many SAYINGS he HEARS there now");
        PaperHears x = told("house;say 0 0 9;say 0 0 9;ear 0 3;ear 0 2;strip 0;");
        due("brothers(-1): both to the first room", x.brothers(-1), 1);
        due("brothers(0)", x.brothers(0), 0);
        PaperHears y = told("house;say 0 0 3;say 0 0 3;ear 1 3;ear 0 2;strip 0;");
        due("brothers(-1): the one hears nothing anywhere", y.brothers(-1), 3);
        due("brothers(0)", y.brothers(0), 10);
        due("brothers(2)", y.brothers(2), 30);
        PaperHears z = told("house;say 0 0 3;say 0 0 3;ear 0 3;ear 1 2;strip 0;");
        due("brothers(-1): the other hears nothing anywhere", z.brothers(-1), 3);
        due("brothers(0)", z.brothers(0), 1);
        due("brothers(2)", z.brothers(2), 3);
    }

    static void termsBrothersRestWhereNeitherWouldGetMore() {
        by(TERMS, "(neither would get more by another ROOM)");
        PaperHears x = told("house;say 0 1 3;say 0 3 9;ear 0 0;ear 1 0;ear 0 0;strip 1;strip 3;");
        due("brothers(-1): as much elsewhere is not more", x.brothers(-1), 4);
        due("brothers(0)", x.brothers(0), 13);
        due("brothers(1)", x.brothers(1), 30);
        due("brothers(2)", x.brothers(2), 31);
        due("brothers(3)", x.brothers(3), 32);
        PaperHears y = told("house;say 0 3 9;say 0 3 8;ear 0 0;ear 0 0;strip 3;");
        due("brothers(-1)", y.brothers(-1), 1);
        due("brothers(0): both in the last room", y.brothers(0), 33);
    }

    static void termsBrothersAreToldRising() {
        by(TERMS, "the k-th (rising)");
        PaperHears x = new PaperHears();
        x.ear(0);
        x.ear(0);
        int[] pairs = {1, 2, 3, 10, 12, 13, 20, 21, 23, 30, 31, 32};
        for (int k = 0; k < pairs.length; k++) {
            due("brothers(" + k + ")", x.brothers(k), pairs[k]);
        }
        due("brothers(12)", x.brothers(12), -5);
    }

    static void termsHoldsByNoneAndByAllOfTen() {
        by(TERMS, "by c of 10 (0 .. 10)");
        PaperHears x = told("house;say 0 0 9;say 0 0 1;ear 0 0;strip 0;");
        due("holds(0, 0, -1)", x.holds(0, 0, -1), BAD);
        due("holds(0, 0, 11)", x.holds(0, 0, 11), BAD);
        chance(x, 0, 0, 0, 1, 1);
        chance(x, 0, 0, 1, 9, 10);
        chance(x, 0, 0, 9, 1, 10);
        chance(x, 0, 0, 10, 0, 1);
        chance(x, 0, 1, 0, 0, 1);
        chance(x, 0, 1, 1, 9, 100);
        chance(x, 0, 1, 9, 9, 100);
        chance(x, 0, 1, 10, 0, 1);
    }

    static void termsHoldsBackTheSayingItself() {
        by(TERMS, "apart, is held back by old paper (is not said)");
        PaperHears x = told("house;say 0 0 4;" + times(7, "say 0 0 9;") + "ear 1 0;strip 0;");
        chance(x, 0, 0, 0, 0, 1);
        chance(x, 0, 0, 5, 1, 256);
        chance(x, 0, 0, 9, 4782969, 100000000);
        chance(x, 0, 0, 1, 9, 100000000);
        chance(x, 0, 0, 10, 0, 1);
    }

    static void termsHoldsOfAnotherRoomIsZero() {
        by(TERMS, "(of that ROOM, else 0)");
        PaperHears x = told("house;say 0 0 9;say 0 1 9;ear 0 0;strip 0;strip 1;");
        chance(x, 0, 0, 5, 1, 2);
        chance(x, 0, 1, 5, 0, 1);
        chance(x, 0, 1, 0, 0, 1);
        PaperHears y = told("house;say 0 3 9;say 3 0 9;say 1 1 9;ear 0 3;strip 0;strip 1;strip 3;");
        chance(y, 0, 0, 4, 3, 5);
        chance(y, 0, 1, 4, 0, 1);
        chance(y, 0, 2, 4, 0, 1);
        y.goes(0, 0);
        chance(y, 0, 0, 4, 0, 1);
        chance(y, 0, 1, 4, 3, 5);
    }

    static void termsHoldsOfARoomThatDoesNotSpeakIsZero() {
        by(TERMS, "the chance that he HEARS a SAYING");
        PaperHears x = told("house;say 0 0 9;ear 0 0;");
        chance(x, 0, 0, 0, 0, 1);
        x.strips(0);
        chance(x, 0, 0, 0, 1, 1);
        x.minutes(29);
        chance(x, 0, 0, 3, 7, 10);
        x.minutes(1);
        chance(x, 0, 0, 3, 0, 1);
        x.strips(0);
        x.papers(0);
        chance(x, 0, 0, 0, 0, 1);
    }

    // ---- Terms: jobs

    /** The listener and the room of the k-th minute from 0 on, by numbers without bounds. */
    private static int[] draw(int seed, int k) {
        BigInteger x = BigInteger.valueOf(seed);
        for (int n = 0; n <= k; n++) {
            x = x.multiply(BigInteger.valueOf(1103515245)).add(BigInteger.valueOf(12345)).mod(BigInteger.valueOf(2147483648L));
        }
        int i = x.divide(BigInteger.valueOf(65536)).mod(BigInteger.valueOf(3)).intValue();
        int r = x.divide(BigInteger.valueOf(1048576)).mod(BigInteger.valueOf(4)).intValue();
        return new int[] {i, r};
    }

    /** The first seed by which these listeners go (and to these rooms, if any are told). */
    private static int seedOf(int[] listeners, int[] rooms) {
        for (int seed = 0; seed < 1000000; seed++) {
            boolean fits = true;
            for (int k = 0; k < listeners.length && fits; k++) {
                int[] drawn = draw(seed, k);
                fits = drawn[0] == listeners[k] && (rooms == null || drawn[1] == rooms[k]);
            }
            if (fits) {
                return seed;
            }
        }
        complain("no seed is as looked for");
        return 0;
    }

    static void termsJobsHaveBounds() {
        by(TERMS, "JOBS by a SEED (0 .. 999999), n (0 .. 60) MINUTES");
        bounds("jobs", Sentences::eightAndThree, (x, a) -> x.jobs(a[0], a[1]), 0, 999999, 0, 60);
        PaperHears x = told("house;say 0 0 9;say 0 1 9;ear 0 0;strip 0;");
        due("jobs(0, 0)", x.jobs(0, 0), 0);
        due("jobs(999999, 0)", x.jobs(999999, 0), 0);
        x.minutes(1);
        due("jobs(0, 0): what is known now", x.jobs(0, 0), 1);
    }

    static void termsJobsKeepWhatIsLeftOver() {
        by(TERMS, "X becomes X times 1103515245 and 12345, by 2147483648 what is left over");
        PaperHears x = told("house;say 0 0 9;say 0 1 9;say 0 2 9;say 0 3 9;ear 0 0;ear 0 0;ear 0 0;");
        int[] seeds = {0, 1, 2, 3, 1945, 1946, 65535, 65536, 500000, 999998, 999999};
        for (int seed : seeds) {
            boolean[] been = new boolean[4];
            int rooms = 0;
            for (int n = 1; n <= 12; n++) {
                int r = draw(seed, n - 1)[1];
                rooms += been[r] ? 0 : 1;
                been[r] = true;
                due("jobs(" + seed + ", " + n + ")", x.jobs(seed, n), rooms);
            }
        }
    }

    static void termsJobsOfAListenerThatIsNotThere() {
        by(TERMS, "(not there: nothing is done)");
        PaperHears nobody = told("house;say 0 0 9;");
        due("jobs(7, 60), nobody", nobody.jobs(7, 60), 0);
        PaperHears x = told("house;say 4 0 9;say 0 0 1;say 0 1 9;ear 0 0;strip 0;strip 1;");
        int others = seedOf(new int[] {1, 2}, new int[] {1, 1});
        due("jobs(" + others + ", 1): he stays and hears", x.jobs(others, 1), 1);
        due("jobs(" + others + ", 2): and the minute goes by", x.jobs(others, 2), 2);
        PaperHears y = told("house;say 4 1 9;ear 0 1;");
        int into = seedOf(new int[] {1}, new int[] {1});
        due("jobs(" + into + ", 1): his room is not stripped", y.jobs(into, 1), 0);
        y.ear(0);
        due("jobs(" + into + ", 1): by one who is there it is", y.jobs(into, 1), 1);
    }

    static void termsJobsGoToTheFirstAndTheLastRoom() {
        by(TERMS, "goes to ROOM X by 1048576 (cut), by 4 left over");
        for (int i = 0; i < 3; i++) {
            for (int r = 0; r < 4; r++) {
                PaperHears x = told("house;say 0 " + r + " 9;ear 0 0;ear 0 0;ear 0 0;");
                int seed = seedOf(new int[] {i}, new int[] {r});
                due("jobs(" + seed + ", 1), listener " + i + " to room " + r, x.jobs(seed, 1), 1);
                int elsewhere = seedOf(new int[] {i}, new int[] {(r + 1) % 4});
                due("jobs(" + elsewhere + ", 1), listener " + i + " elsewhere", x.jobs(elsewhere, 1), 0);
            }
        }
    }

    static void termsJobsCutAtTheEdge() {
        by(TERMS, "LISTENER X by 65536 (cut), by 3 left over");
        for (int who = 0; who < 3; who++) {
            StringBuilder ears = new StringBuilder();
            for (int i = 0; i < 3; i++) {
                ears.append(i == who ? "ear 0 0;" : "ear 1 1;");
            }
            PaperHears x = told("house;say 0 1 1;say 0 2 1;say 0 3 1;" + ears);
            for (int seed : seedsAtTheEdge()) {
                int[] drawn = draw(seed, 0);
                int heard = drawn[0] == who && drawn[1] != 0 ? 1 : 0;
                due("jobs(" + seed + ", 1), but " + who + " hears nothing so low, and nothing is said in 0", x.jobs(seed, 1), heard);
            }
        }
    }

    /** By these seeds X is closest to the numbers where the listener, or the room, becomes another one. */
    private static List<Integer> seedsAtTheEdge() {
        List<Integer> seeds = new ArrayList<>();
        for (int part : new int[] {65536, 1048576}) {
            for (int room = 0; room < 4; room++) {
                int least = 0;
                int most = 0;
                for (int seed = 0; seed < 1000000; seed++) {
                    long x = next(seed);
                    if (x / 1048576 % 4 == room && x > 1048576L * 1024) {
                        least = least == 0 || x % part < next(least) % part ? seed : least;
                        most = most == 0 || x % part > next(most) % part ? seed : most;
                    }
                }
                seeds.addAll(List.of(least, most));
            }
        }
        return seeds;
    }

    private static long next(int seed) {
        return (seed * 1103515245L + 12345L) % 2147483648L;
    }

    static void termsJobsStripARoomThatDoesNotSpeak() {
        by(TERMS, "which is STRIPPED, if it does not speak");
        int seed = seedOf(new int[] {0}, new int[] {0});
        String call = "jobs(" + seed + ", 1), ";
        due(call + "not stripped", told("house;say 4 0 9;ear 0 1;").jobs(seed, 1), 1);
        due(call + "at 0", told("house;say 4 0 9;ear 0 1;strip 0;").jobs(seed, 1), 1);
        due(call + "at 1 it speaks", told("house;say 4 0 9;ear 0 1;strip 0;minutes 1;").jobs(seed, 1), 0);
        due(call + "at 29 it speaks", told("house;say 4 0 9;ear 0 1;strip 0;minutes 29;").jobs(seed, 1), 0);
        due(call + "at 30 it is silent", told("house;say 4 0 9;ear 0 1;strip 0;minutes 30;").jobs(seed, 1), 1);
        due(call + "there already", told("house;say 4 0 9;ear 0 0;").jobs(seed, 1), 1);
    }

    // ---- Terms: undo, images, status, the fraction, refusals

    static void termsEightMayBeUndone() {
        by(TERMS, "(8 at most;");
        PaperHears x = new PaperHears();
        x.ear(0);
        x.strips(0);
        x.goes(0, 1);
        x.papers(0);
        for (int k = 1; k <= 8; k++) {
            due("count(8)", x.count(8), Math.min(8, 2 + k));
            x.minutes(1);
        }
        due("count(8)", x.count(8), 8);
        for (int k = 7; k >= 0; k--) {
            due("undo()", x.undo(), k);
            due("count(8)", x.count(8), k);
        }
        due("undo() of a 9th", x.undo(), NO);
        due("about(0, 1)", x.about(0, 1), 1);
        due("count(3)", x.count(3), 0);
    }

    static void termsTheNinthPushesTheFirstOut() {
        by(TERMS, "as ahead of the last MINUTES gone by, STRIPPING, PAPERING, going");
        PaperHears x = told("house;say 0 0 9;ear 0 0;ear 0 1;");
        x.minutes(50);
        x.strips(0);
        x.minutes(2);
        x.goes(1, 0);
        x.papers(0);
        x.strips(3);
        x.minutes(1);
        x.goes(0, 3);
        x.papers(3);
        due("count(8)", x.count(8), 8);
        due("undo() of papering", x.undo(), 53);
        due("room(3, 0)", x.room(3, 0), 1);
        due("undo() of going", x.undo(), 53);
        due("about(0, 1)", x.about(0, 1), 0);
        due("undo() of a minute", x.undo(), 52);
        due("room(3, 0)", x.room(3, 0), 0);
        due("undo() of stripping", x.undo(), 52);
        due("room(3, 0)", x.room(3, 0), NONE);
        due("undo() of papering", x.undo(), 52);
        due("room(0, 0)", x.room(0, 0), 2);
        due("undo() of going", x.undo(), 52);
        due("about(1, 1)", x.about(1, 1), 1);
        due("about(0, 2)", x.about(0, 2), 1);
        due("undo() of two minutes", x.undo(), 50);
        due("about(0, 2)", x.about(0, 2), 0);
        due("undo() of stripping", x.undo(), 50);
        due("count(3)", x.count(3), 0);
        due("undo() of the first is no more", x.undo(), NO);
        due("count(2)", x.count(2), 50);
    }

    static void termsUndoOfTheLastOfAll() {
        by(TERMS, "what all KNOW, where they are, which ROOMS are STRIPPED, since when");
        PaperHears x = eightAndThree();
        x.strips(3);
        x.minutes(3);
        x.strips(2);
        x.goes(2, 3);
        x.minutes(2);
        x.goes(2, 0);
        x.papers(3);
        x.papers(2);
        due("about(2, 2)", x.about(2, 2), 192);
        x.undo();
        due("room(2, 0)", x.room(2, 0), 2);
        x.undo();
        due("room(3, 0)", x.room(3, 0), 5);
        x.undo();
        due("about(2, 1)", x.about(2, 1), 3);
        due("about(2, 2)", x.about(2, 2), 192);
        due("undo() of minutes", x.undo(), 3);
        due("about(2, 2)", x.about(2, 2), 0);
        due("about(0, 2)", x.about(0, 2), 0);
        x.undo();
        due("about(2, 1)", x.about(2, 1), 2);
        x.undo();
        due("room(2, 0)", x.room(2, 0), NONE);
        due("room(3, 0)", x.room(3, 0), 3);
        due("undo() of minutes", x.undo(), 0);
        due("undo() of stripping", x.undo(), 0);
        due("count(3)", x.count(3), 0);
    }

    static void termsBehindASayingNoneMayBeUndone() {
        by(TERMS, "behind a SAYING, a LISTENER that comes none may be");
        PaperHears x = twoAndTwo();
        x.minutes(1);
        x.say(6, 0, 1);
        x.ear(-1);
        due("count(8) behind refused ones", x.count(8), 1);
        x.say(0, 0, 1);
        due("count(8) behind a saying", x.count(8), 0);
        due("undo()", x.undo(), NO);
        x.minutes(1);
        x.ear(0);
        due("count(8) behind a listener", x.count(8), 0);
        due("undo()", x.undo(), NO);
        PaperHears y = eightAndThree();
        y.minutes(1);
        y.say(0, 0, 1);
        y.ear(0);
        due("count(8) behind full ones", y.count(8), 1);
        due("undo()", y.undo(), 0);
    }

    static void termsUndoLeavesWhatIsTold() {
        by(TERMS, "UNDO: what all KNOW, where they are, which ROOMS are STRIPPED, since when, the MINUTE");
        PaperHears x = twoAndTwo();
        x.minutes(1);
        x.told(0, 0, 9);
        x.note(0, 9, 0, 9);
        x.mark(0, 9, 0, 1);
        x.forget(1);
        x.image(0);
        due("undo()", x.undo(), 0);
        due("count(5)", x.count(5), 1);
        due("count(6)", x.count(6), 0);
        due("count(7)", x.count(7), 1);
        due("from(0)", x.from(0), 1);
        due("count(2)", x.count(2), 1);
    }

    static void termsImagesKeepAllButSome() {
        by(TERMS, "IMAGES 0, 1 keep all but them, THE TEXT, THE FRACTION and STATUS");
        PaperHears x = told("house;say 0 0 9;ear 0 0;strip 0;");
        x.told(0, 0, 9);
        x.note(0, 9, 0, 9);
        x.mark(0, 9, 0, 1);
        x.minutes(3);
        x.image(0);
        long kept = x.digest();
        x.house();
        x.image(1);
        x.clear();
        x.type(32);
        x.from(0);
        x.holds(0, 0, 5);
        x.strips(4);
        due("from(1), an empty one", x.from(1), 1);
        for (int what = 0; what < 9; what++) {
            due("count(" + what + ")", x.count(what), 0);
        }
        due("count(9)", x.count(9), 1);
        due("part(1)", x.part(1), 2);
        refused("from(1)", x, 1, 0, 0);
        due("from(0)", x.from(0), 1);
        x.holds(0, 0, 10);
        read(x, "?");
        x.clear();
        for (int k = 0; k < 32; k++) {
            x.type(32);
        }
        due("digest()", x.digest(), kept);
    }

    static void termsImagesKeepWhatMayBeUndone() {
        by(TERMS, "what may be undone they keep");
        PaperHears x = told("house;say 0 0 9;ear 0 0;strip 0;");
        for (int k = 0; k < 9; k++) {
            x.minutes(1);
        }
        x.image(1);
        x.say(0, 0, 1);
        due("count(8)", x.count(8), 0);
        x.from(1);
        due("count(8)", x.count(8), 8);
        for (int k = 8; k >= 1; k--) {
            due("undo()", x.undo(), k);
        }
        due("undo() of a 9th", x.undo(), NO);
        x.from(1);
        due("undo() again", x.undo(), 8);
    }

    static void termsStatusCountsEachRefusal() {
        by(TERMS, "STATUS: how many calls were refused as BAD, NO, FULL (each answer told so below is such a one)");
        PaperHears x = new PaperHears();
        refused("nothing", x, 0, 0, 0);
        x.of(0, 0);
        refused("BAD", x, 1, 0, 0);
        x.undo();
        refused("NO", x, 1, 1, 0);
        for (int k = 0; k < 4; k++) {
            x.ear(0);
        }
        refused("FULL", x, 1, 1, 1);
        x.brothers(-2);
        refused("-10 of brothers", x, 2, 1, 1);
        x.status(3);
        refused("-1 of status", x, 3, 1, 1);
        x.brothers(99);
        x.read();
        x.say(0, 0, 1);
        x.first(0, 0);
        x.stay(0, 1, 0, 0);
        x.room(0, 0);
        x.note(0, 1, 0, 20);
        x.look(0);
        x.mark(0, 0, 0, 1);
        x.ask(0);
        x.told(0, 0, 99);
        x.said(0, 1);
        refused("answers below 0 that are no refusals", x, 3, 1, 1);
    }

    static void termsTheFractionIsZeroByOneAtFirst() {
        by(TERMS, "THE FRACTION is 0 by 1 at first");
        PaperHears x = new PaperHears();
        due("part(0)", x.part(0), 0);
        due("part(1)", x.part(1), 1);
    }

    static void termsTheFractionIsInLowestTerms() {
        by(TERMS, "lowest terms, below above 0");
        PaperHears x = told("house;say 0 0 9;say 0 0 9;ear 0 0;strip 0;");
        chance(x, 0, 0, 0, 1, 1);
        chance(x, 0, 0, 2, 4, 5);
        chance(x, 0, 0, 5, 1, 2);
        chance(x, 0, 0, 8, 1, 5);
        chance(x, 0, 0, 7, 3, 10);
        chance(x, 0, 0, 10, 0, 1);
    }

    static void termsBadIsTheFirstReason() {
        by(TERMS, "Refused, changing nothing but STATUS, the first of: BAD -2 a number is not as told; NO -3 as told; FULL -4");
        PaperHears x = new PaperHears();
        due("stand(0, 0), nobody", x.stand(0, 0), BAD);
        due("stand(1, 2), nobody", x.stand(1, 2), BAD);
        due("from(2), none kept", x.from(2), BAD);
        due("papers(4), none stripped", x.papers(4), BAD);
        due("brothers(-2), nobody", x.brothers(-2), -10);
        refused("BAD ahead of NO", x, 5, 0, 0);
        PaperHears y = eightAndThree();
        for (int k = 0; k < 150; k++) {
            y.type(32);
        }
        for (int k = 0; k < 6; k++) {
            y.told(0, 0, 0);
            y.note(0, 1, 0, 0);
            y.mark(0, 0, 0, 0);
        }
        int full = y.status(2);
        due("say(6, 0, 1)", y.say(6, 0, 1), BAD);
        due("ear(6)", y.ear(6), BAD);
        due("type(128)", y.type(128), BAD);
        due("told(0, 30, 0)", y.told(0, 30, 0), BAD);
        due("note(0, 1, 0, 21)", y.note(0, 1, 0, 21), BAD);
        due("mark(0, 0, 0, 2)", y.mark(0, 0, 0, 2), BAD);
        refused("BAD ahead of FULL", y, 6, 0, full);
    }

    static void termsOtherAnswersCountAsRefusals() {
        by(TERMS, "(where others are told they count as these)");
        PaperHears x = new PaperHears();
        due("brothers(-2)", x.brothers(-2), -10);
        refused("brothers(-2)", x, 1, 0, 0);
        due("brothers(-1)", x.brothers(-1), -3);
        refused("brothers(-1)", x, 1, 1, 0);
        due("status(3)", x.status(3), -1);
        refused("status(3)", x, 2, 1, 0);
    }

    static void termsQuestionsChangeNothing() {
        by(TERMS, "(Nothing is changed by these;");
        PaperHears x = told("house;say 4 1 9;say 0 2 9;ear 0 1;ear 0 3;strip 1;");
        x.minutes(1);
        long before = x.digest();
        x.loud(0, 29);
        x.first(0, 0);
        x.stay(0, 3, 0, NONE);
        x.stay(1, 2, 1, 2);
        x.stand(30, 0);
        x.said(1, 0);
        x.is(0);
        x.look(0);
        x.kinds(0);
        x.ask(0);
        x.brothers(NONE);
        x.jobs(999999, 60);
        due("digest()", x.digest(), before);
        due("about(0, 3)", x.about(0, 3), 0);
        refused("questions", x, 0, 0, 0);
        due("undo()", x.undo(), 0);
        due("undo()", x.undo(), NO);
    }

    static void documentLastCallIsAnsweredToo() {
        by(DOCUMENT, "An object is used for at most 512 calls after it has been made");
        PaperHears x = new PaperHears();
        x.say(0, 0, 9);
        x.ear(0);
        for (int k = 2; k < 510; k++) {
            x.strips(k % 4);
        }
        due("the 511th call, minutes(1)", x.minutes(1), 1);
        due("the 512th call, count(8)", x.count(8), 8);
    }
}
