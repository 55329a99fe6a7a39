import java.util.ArrayList;
import java.util.List;

/** The boundaries that the document names in its promises, 1 to 37. */
public final class PromiseBoundaryTest extends Sentences {
    public static void main(String[] args) throws Exception {
        check(PromiseBoundaryTest.class, 1, PROMISES);
    }

    // ---- Promises 1 to 7: a house

    static void promise01NothingIsSaid() {
        by(1, "As told; nothing is said");
        PaperHears x = new PaperHears();
        for (int what = 0; what < 10; what++) {
            due("count(" + what + ")", x.count(what), 0);
        }
        for (int r = 0; r < 4; r++) {
            due("said(" + r + ", 0)", x.said(r, 0), 1);
        }
        due("of(0, 0)", x.of(0, 0), BAD);
        due("about(0, 0)", x.about(0, 0), BAD);
        due("house()", x.house(), 0);
    }

    static void promise02HouseTellsHowManyThereWere() {
        by(2, "how many SAYINGS there were");
        PaperHears x = new PaperHears();
        due("house(), none", x.house(), 0);
        for (int k = 0; k < 9; k++) {
            x.say(0, 0, 1);
        }
        due("house(), eight", x.house(), 8);
        due("house() again", x.house(), 0);
    }

    static void promise02HouseIsAsAtFirst() {
        by(2, "All as at first (but for IMAGES, THE TEXT, THE FRACTION, STATUS)");
        PaperHears x = eightAndThree();
        for (int r = 0; r < 4; r++) {
            x.strips(r);
        }
        x.image(0);
        x.minutes(9);
        x.told(0, 0, 1);
        x.note(0, 1, 0, 1);
        x.mark(0, 1, 0, 1);
        x.goes(0, 3);
        x.strips(3);
        x.holds(0, 6, 5);
        x.say(0, 0, 1);
        x.strips(4);
        x.from(1);
        x.house();
        refused("house()", x, 1, 1, 1);
        due("part(0)", x.part(0), 1);
        due("part(1)", x.part(1), 2);
        due("count(9)", x.count(9), EIGHT_AND_THREE.length());
        x.clear();
        due("digest()", x.digest(), hash(List.of(0, 0, 0, 0, 0, 0, 0, 0, 0, 0, -1, -1, -1, -1, 1, 2)));
        due("undo()", x.undo(), NO);
        x.ear(0);
        due("about(0, 2)", x.about(0, 2), 0);
        due("from(0)", x.from(0), 1);
        due("count(0)", x.count(0), 8);
    }

    static void promise03SayRefusesBad() {
        by(3, "BAD; FULL: 8");
        bounds("say", PaperHears::new, (x, a) -> x.say(a[0], a[1], a[2]), 0, 5, 0, 3, 1, 9);
        bounds("say", Sentences::eightAndThree, (x, a) -> x.say(a[0], a[1], a[2]), 0, 5, 0, 3, 1, 9);
    }

    static void promise03SayIsFullByEight() {
        by(3, "FULL: 8");
        PaperHears x = new PaperHears();
        for (int s = 0; s < 8; s++) {
            due("say(0, 0, 1)", x.say(0, 0, 1), s);
        }
        refused("eight", x, 0, 0, 0);
        due("say(0, 0, 1)", x.say(0, 0, 1), FULL);
        due("say(5, 3, 9)", x.say(5, 3, 9), FULL);
        refused("ten", x, 0, 0, 2);
        x.house();
        due("say(0, 0, 1) in a new house", x.say(0, 0, 1), 0);
    }

    static void promise04EarRefusesBad() {
        by(4, "BAD; FULL: 3");
        bounds("ear", PaperHears::new, (x, a) -> x.ear(a[0]), 0, 5);
        bounds("ear", Sentences::eightAndThree, (x, a) -> x.ear(a[0]), 0, 5);
    }

    static void promise04EarIsFullByThree() {
        by(4, "FULL: 3");
        PaperHears x = new PaperHears();
        for (int i = 0; i < 3; i++) {
            due("ear(0)", x.ear(0), i);
        }
        refused("three", x, 0, 0, 0);
        due("ear(0)", x.ear(0), FULL);
        refused("four", x, 0, 0, 1);
        x.house();
        due("ear(0) in a new house", x.ear(0), 0);
    }

    static void promise05TypeTakesBytes() {
        by(5, "A byte (0 .. 127)");
        bounds("type", PaperHears::new, (x, a) -> x.type(a[0]), 0, 127);
    }

    static void promise05TypeIsFullBy150() {
        by(5, "BAD; FULL");
        PaperHears x = new PaperHears();
        for (int k = 1; k <= 150; k++) {
            due("type(32)", x.type(32), k);
        }
        refused("150", x, 0, 0, 0);
        due("type(32)", x.type(32), FULL);
        due("type(-1)", x.type(-1), BAD);
        refused("152", x, 1, 0, 1);
        due("count(9)", x.count(9), 150);
    }

    static void promise06ClearTellsHowManyItHad() {
        by(6, "THE TEXT is empty: how many it had");
        PaperHears x = new PaperHears();
        due("clear(), empty", x.clear(), 0);
        for (int k = 0; k < 151; k++) {
            x.type(104);
        }
        due("clear(), full", x.clear(), 150);
        due("clear() again", x.clear(), 0);
        due("read() of what is empty", x.read(), -10);
        due("type(104)", x.type(104), 1);
        due("read() of a single byte", x.read(), -10);
        refused("clear", x, 0, 0, 1);
    }

    static void promise07ReadTellsHowManyItems() {
        by(7, "how many ITEMS");
        items("house;", 1);
        items("house;" + times(20, "strip0;"), 21);
        items("house;" + times(20, "paper3;") + "    ", 21);
    }

    static void promise07ReadTellsTheFault() {
        by(7, "-10 less the FAULT: all stays");
        fault("", 0);
        fault("h", 0);
        fault("house", 5);
        fault(times(150, ";"), 0);
        fault("house;" + times(20, "strip0;") + "stri", 146);
        fault("house;" + times(20, "strip0;") + "   x", 149);
        fault("house;" + times(20, "strip0;") + "ear ", 150);
    }

    static void promise07ReadThatFailsUndoesNothing() {
        by(7, "all stays");
        PaperHears x = twoAndTwo();
        x.strips(0);
        x.minutes(2);
        x.told(0, 0, 9);
        due("read()", read(x, "house;say 0 0 9;ear 0 0;strip 0;minutes 99;say 0 0 9;paper 9;"), -10 - 59);
        due("count(0)", x.count(0), 2);
        due("count(1)", x.count(1), 2);
        due("count(2)", x.count(2), 2);
        due("count(5)", x.count(5), 1);
        due("undo()", x.undo(), 0);
        due("undo()", x.undo(), 0);
        due("count(3)", x.count(3), 0);
    }

    // ---- Promises 8 to 15: minutes

    static void promise08StripsTellsHowLoud() {
        by(8, "how loud the ROOM is then");
        PaperHears x = told("house;" + times(8, "say 5 0 9;"));
        due("strips(0): as loud as can be", x.strips(0), 104);
        due("strips(1): nothing is said there", x.strips(1), 0);
        x.minutes(99);
        due("strips(0) anew", x.strips(0), 104);
    }

    static void promise08StripsRefusesBad() {
        by(8, "BAD");
        bounds("strips", PaperHears::new, (x, a) -> x.strips(a[0]), 0, 3);
    }

    static void promise09PapersRefusesBad() {
        by(9, "BAD; NO");
        bounds("papers", PaperHears::new, (x, a) -> x.papers(a[0]), 0, 3);
        bounds("papers", PromiseBoundaryTest::allStripped, (x, a) -> x.papers(a[0]), 0, 3);
    }

    private static PaperHears allStripped() {
        return told("house;strip 0;strip 1;strip 2;strip 3;");
    }

    static void promise09PapersOfARoomThatIsNotStripped() {
        by(9, "NO: it is not STRIPPED");
        PaperHears x = new PaperHears();
        for (int r = 0; r < 4; r++) {
            due("papers(" + r + "), never", x.papers(r), NO);
            x.strips(r);
            due("papers(" + r + ")", x.papers(r), 1);
            due("papers(" + r + ") again", x.papers(r), NO);
        }
        refused("papers", x, 0, 8, 0);
        due("count(8), what is refused is none", x.count(8), 8);
        x.strips(0);
        x.minutes(30);
        due("room(0, 0), silent", x.room(0, 0), NONE);
        due("papers(0), silent, but stripped", x.papers(0), 1);
    }

    static void promise10GoesRefusesBad() {
        by(10, "BAD; NO");
        bounds("goes", Sentences::twoAndTwo, (x, a) -> x.goes(a[0], a[1]), 0, 1, 0, 3);
        bounds("goes", Sentences::eightAndThree, (x, a) -> x.goes(a[0], a[1]), 0, 2, 0, 3);
        due("goes(0, 1), nobody", new PaperHears().goes(0, 1), BAD);
    }

    static void promise10GoesWhereHeIs() {
        by(10, "NO: he is there");
        PaperHears x = told("house;ear 0 0;ear 0 3;");
        due("goes(0, 0)", x.goes(0, 0), NO);
        due("goes(1, 3)", x.goes(1, 3), NO);
        due("goes(0, 3), where another is", x.goes(0, 3), 0);
        due("goes(0, 3)", x.goes(0, 3), NO);
        due("goes(0, 0), back", x.goes(0, 0), 3);
        refused("goes", x, 0, 3, 0);
        due("count(8)", x.count(8), 2);
    }

    static void promise11MinutesRefusesBad() {
        by(11, "n MINUTES go by (1 .. 99;");
        bounds("minutes", PaperHears::new, (x, a) -> x.minutes(a[0]), 1, 99);
        PaperHears x = new PaperHears();
        x.minutes(1);
        due("count(2)", x.count(2), 1);
        x.minutes(99);
        due("count(2)", x.count(2), 100);
    }

    static void promise11MinutesAreTogetherOne() {
        by(11, "together one that may be undone, also if none goes by");
        PaperHears x = new PaperHears();
        x.minutes(99);
        due("count(8)", x.count(8), 1);
        due("undo()", x.undo(), 0);
        PaperHears y = atLast("house;");
        y.ear(0);
        due("count(8)", y.count(8), 0);
        y.minutes(99);
        due("count(8), none went by", y.count(8), 1);
        y.minutes(1);
        due("count(8), none went by", y.count(8), 2);
        due("undo()", y.undo(), 9999);
        due("undo()", y.undo(), 9999);
        due("undo()", y.undo(), NO);
    }

    static void promise11NoMinuteGoesByAtTheLast() {
        by(11, "at 9999 none goes by");
        PaperHears x = atLast("house;say 0 0 9;ear 0 0;");
        x.strips(0);
        due("about(0, 3)", x.about(0, 3), 1);
        due("minutes(99)", x.minutes(99), 0);
        due("about(0, 2): he does not come to know it", x.about(0, 2), 0);
        due("room(0, 0)", x.room(0, 0), 0);
        due("count(2)", x.count(2), 9999);
        x.undo();
        x.undo();
        x.undo();
        x.minutes(98);
        x.strips(0);
        due("count(2)", x.count(2), 9998);
        due("minutes(99), one goes by", x.minutes(99), 1);
        due("room(0, 0)", x.room(0, 0), 1);
        due("count(2)", x.count(2), 9999);
    }

    static void promise11MinutesTellWhatSomebodyKnows() {
        by(11, "how many SAYINGS somebody KNOWS");
        PaperHears x = told("house;" + "say 0 0 9;say 0 0 9;say 0 1 9;say 0 1 9;say 0 2 9;say 0 2 9;say 0 3 9;say 0 3 9;ear 0 0;ear 0 0;");
        due("minutes(1), none", x.minutes(1), 0);
        for (int r = 0; r < 4; r++) {
            x.strips(r);
            x.goes(r % 2, r);
            due("minutes(1)", x.minutes(1), 2 * r + 2);
        }
        due("minutes(99), all", x.minutes(99), 8);
        due("count(4)", x.count(4), 8);
    }

    static void promise12UndoOfNothing() {
        by(12, "NO: none may be");
        PaperHears x = new PaperHears();
        due("undo()", x.undo(), NO);
        x.strips(0);
        due("undo()", x.undo(), 0);
        due("undo()", x.undo(), NO);
        x.papers(0);
        x.strips(4);
        x.minutes(0);
        due("undo() behind refused ones", x.undo(), NO);
        refused("undo", x, 2, 4, 0);
    }

    static void promise13OfRefusesBad() {
        by(13, "BAD");
        bounds("of", Sentences::twoAndTwo, (x, a) -> x.of(a[0], a[1]), 0, 1, 0, 2);
        bounds("of", Sentences::eightAndThree, (x, a) -> x.of(a[0], a[1]), 0, 7, 0, 2);
        due("of(0, 0), nothing said", new PaperHears().of(0, 0), BAD);
    }

    static void promise14AboutRefusesBad() {
        by(14, "BAD");
        bounds("about", Sentences::twoAndTwo, (x, a) -> x.about(a[0], a[1]), 0, 1, 0, 3);
        bounds("about", Sentences::eightAndThree, (x, a) -> x.about(a[0], a[1]), 0, 2, 0, 3);
        due("about(0, 0), nobody", new PaperHears().about(0, 0), BAD);
    }

    static void promise15RoomRefusesBad() {
        by(15, "BAD");
        bounds("room", PaperHears::new, (x, a) -> x.room(a[0], a[1]), 0, 3, 0, 1);
        bounds("room", PromiseBoundaryTest::allStripped, (x, a) -> x.room(a[0], a[1]), 0, 3, 0, 1);
    }

    static void promise15RoomHasNoMinute() {
        by(15, "(0; NONE: not STRIPPED, or silent)");
        PaperHears x = new PaperHears();
        due("room(0, 0), not stripped", x.room(0, 0), NONE);
        x.strips(0);
        due("room(0, 0), stripped", x.room(0, 0), 0);
        x.minutes(29);
        due("room(0, 0), at last", x.room(0, 0), 29);
        x.minutes(1);
        due("room(0, 0), silent", x.room(0, 0), NONE);
        due("count(3), silent, but stripped", x.count(3), 1);
        refused("room", x, 0, 0, 0);
    }

    // ---- Promises 16 to 19: what is heard

    static void promise16LoudRefusesBad() {
        by(16, "BAD");
        bounds("loud", Sentences::twoAndTwo, (x, a) -> x.loud(a[0], a[1]), 0, 1, 0, 29);
        bounds("loud", Sentences::eightAndThree, (x, a) -> x.loud(a[0], a[1]), 0, 7, 0, 29);
        due("loud(0, 0), nothing said", new PaperHears().loud(0, 0), BAD);
    }

    static void promise17FirstOfNone() {
        by(17, "NONE");
        PaperHears x = twoAndTwo();
        due("first(0, 0)", x.first(0, 0), NONE);
        due("first(1, 1)", x.first(1, 1), NONE);
        x.strips(0);
        due("first(0, 0)", x.first(0, 0), 0);
        due("first(1, 0)", x.first(1, 0), NONE);
        refused("first", x, 0, 0, 0);
    }

    static void promise17FirstRefusesBad() {
        by(17, "BAD");
        bounds("first", Sentences::twoAndTwo, (x, a) -> x.first(a[0], a[1]), 0, 1, 0, 1);
        bounds("first", Sentences::eightAndThree, (x, a) -> x.first(a[0], a[1]), 0, 2, 0, 7);
    }

    static void promise18StayInTheBestRoom() {
        by(18, "r = NONE: 100 times that for the best ROOM, and the ROOM");
        PaperHears x = told(heardAt29(3) + "ear 0 0;");
        due("stay(0, 0, 0, -1)", x.stay(0, 0, 0, -1), 0);
        due("stay(0, 2, 0, -1)", x.stay(0, 2, 0, -1), 203);
        due("stay(0, 1, 0, -1): the longest", x.stay(0, 1, 0, -1), 3003);
        due("stay(0, 1, 0, 3)", x.stay(0, 1, 0, 3), 30);
    }

    static void promise18StayNowhere() {
        by(18, "NONE. BAD");
        PaperHears x = twoAndTwo();
        due("stay(0, 1, 0, 1), told another room", x.stay(0, 1, 0, 1), NONE);
        due("stay(0, 3, 0, -1), no room", x.stay(0, 3, 0, -1), NONE);
        refused("stay", x, 0, 0, 0);
    }

    static void promise18StayRefusesBad() {
        by(18, "BAD");
        bounds("stay", Sentences::twoAndTwo, (x, a) -> x.stay(a[0], a[1], 0, a[2]), 0, 1, 0, 3, -1, 3);
        bounds("stay", Sentences::twoAndTwo, (x, a) -> x.stay(a[0], 0, a[1], a[2]), 0, 1, 0, 3, -1, 3);
        bounds("stay", Sentences::eightAndThree, (x, a) -> x.stay(a[0], a[1], 0, a[2]), 0, 2, 0, 255, -1, 3);
        bounds("stay", Sentences::eightAndThree, (x, a) -> x.stay(a[0], 0, a[1], a[2]), 0, 2, 0, 255, -1, 3);
        PaperHears x = new PaperHears();
        due("stay(0, 0, 0, 0), nobody", x.stay(0, 0, 0, 0), BAD);
        x.ear(0);
        due("stay(0, 0, 0, 0), nothing said", x.stay(0, 0, 0, 0), 0);
        due("stay(0, 1, 0, 0), nothing said", x.stay(0, 1, 0, 0), BAD);
        due("stay(0, 0, 1, 0), nothing said", x.stay(0, 0, 1, 0), BAD);
    }

    static void promise18StayForASayingInBothSets() {
        by(18, "BAD: a SAYING in both sets, too");
        PaperHears x = eightAndThree();
        for (int s = 0; s < 8; s++) {
            due("stay(0, " + (1 << s) + ", " + (1 << s) + ", 0)", x.stay(0, 1 << s, 1 << s, 0), BAD);
            due("stay(0, " + (1 << s) + ", " + (255 - (1 << s)) + ", 1)", x.stay(0, 1 << s, 255 - (1 << s), 1) == BAD ? 1 : 0, 0);
        }
        due("stay(0, 255, 255, -1)", x.stay(0, 255, 255, -1), BAD);
        refused("stay", x, 9, 0, 0);
    }

    static void promise19StandRefusesBadAndNo() {
        by(19, "BAD; NO");
        bounds("stand", Sentences::twoAndTwo, (x, a) -> x.stand(a[0], a[1]), 1, 30, 0, 1);
        bounds("stand", PaperHears::new, (x, a) -> x.stand(a[0], a[1]), 1, 30, 0, 1);
        PaperHears x = new PaperHears();
        x.ear(0);
        due("stand(1, 0)", x.stand(1, 0), NO);
        due("stand(30, 1)", x.stand(30, 1), NO);
        due("stand(31, 1)", x.stand(31, 1), BAD);
        refused("stand", x, 1, 2, 0);
    }

    // ---- Promises 20 to 31: what was said

    static void promise20ToldRefusesBad() {
        by(20, "BAD");
        bounds("told", PaperHears::new, (x, a) -> x.told(a[0], a[1], a[2]), 0, 3, 0, 29, 0, 99);
    }

    static void promise20ToldIsFullByFive() {
        by(20, "FULL: 5");
        PaperHears x = new PaperHears();
        for (int k = 1; k <= 5; k++) {
            due("told(3, 29, 99)", x.told(3, 29, 99), k);
        }
        refused("five", x, 0, 0, 0);
        due("told(3, 29, 99)", x.told(3, 29, 99), FULL);
        due("told(3, 29, 100)", x.told(3, 29, 100), BAD);
        refused("seven", x, 1, 0, 1);
        due("said(3, 0)", x.said(3, 0), 0);
    }

    static void promise21SaidOfNoSet() {
        by(21, "in all (1; bits; NONE: no set)");
        PaperHears x = told("house;say 0 0 9;");
        x.told(0, 0, 8);
        due("said(0, 0)", x.said(0, 0), 0);
        due("said(0, 1)", x.said(0, 1), NONE);
        due("said(0, 2)", x.said(0, 2), 0);
        due("said(1, 1), another room: the set of none", x.said(1, 1), 0);
        x.told(1, 0, 1);
        due("said(1, 1), not even that", x.said(1, 1), NONE);
        refused("said", x, 0, 0, 0);
    }

    static void promise21SaidRefusesBad() {
        by(21, "BAD");
        bounds("said", PaperHears::new, (x, a) -> x.said(a[0], a[1]), 0, 3, 0, 2);
        bounds("said", Sentences::eightAndThree, (x, a) -> x.said(a[0], a[1]), 0, 3, 0, 2);
    }

    static void promise22NoteRefusesBad() {
        by(22, "BAD");
        PaperHears x = new PaperHears();
        due("note(0, 1, 0, 0), nothing said", x.note(0, 1, 0, 0), BAD);
        x.say(0, 0, 1);
        due("note(0, 1, 0, 0)", x.note(0, 1, 0, 0), 1);
        due("note(1, 1, 0, 0)", x.note(1, 1, 0, 0), BAD);
        refused("note", x, 2, 0, 0);
    }

    static void promise22NoteIsFullBySix() {
        by(22, "FULL: 6");
        PaperHears x = eightAndThree();
        for (int k = 1; k <= 6; k++) {
            due("note(7, 9, 29, 20)", x.note(7, 9, 29, 20), k);
        }
        refused("six", x, 0, 0, 0);
        due("note(7, 9, 29, 20)", x.note(7, 9, 29, 20), FULL);
        due("note(8, 9, 29, 20)", x.note(8, 9, 29, 20), BAD);
        refused("eight", x, 1, 0, 1);
    }

    static void promise23MarkRefusesBad() {
        by(23, "BAD");
        PaperHears x = new PaperHears();
        due("mark(0, 0, 0, 0), nobody", x.mark(0, 0, 0, 0), BAD);
        x.ear(0);
        due("mark(0, 0, 0, 0)", x.mark(0, 0, 0, 0), 1);
        due("mark(1, 0, 0, 0)", x.mark(1, 0, 0, 0), BAD);
        refused("mark", x, 2, 0, 0);
    }

    static void promise23MarkIsFullBySix() {
        by(23, "FULL: 6");
        PaperHears x = eightAndThree();
        for (int k = 1; k <= 6; k++) {
            due("mark(2, 20, 99, 1)", x.mark(2, 20, 99, 1), k);
        }
        refused("six", x, 0, 0, 0);
        due("mark(2, 20, 99, 1)", x.mark(2, 20, 99, 1), FULL);
        due("mark(3, 20, 99, 1)", x.mark(3, 20, 99, 1), BAD);
        refused("eight", x, 1, 0, 1);
    }

    static void promise24ForgetTellsHowManyThereWere() {
        by(24, "No TOLD ones (0), NOTES (1), MARKS (2): how many there were");
        PaperHears x = twoAndTwo();
        for (int what = 0; what < 3; what++) {
            due("forget(" + what + "), none", x.forget(what), 0);
        }
        for (int k = 0; k < 7; k++) {
            x.told(0, 0, 1);
            x.note(0, 1, 0, 9);
            x.mark(0, 1, 0, 0);
        }
        due("forget(0), full", x.forget(0), 5);
        due("count(6)", x.count(6), 6);
        due("forget(1), full", x.forget(1), 6);
        due("count(7)", x.count(7), 6);
        due("forget(2), full", x.forget(2), 6);
        for (int what = 0; what < 3; what++) {
            due("forget(" + what + ") again", x.forget(what), 0);
            due("count()", x.count(5 + what), 0);
        }
        due("is(0)", x.is(0), 63);
        due("kinds(0)", x.kinds(0), 63);
        due("said(0, 0)", x.said(0, 0), 2);
    }

    static void promise24ForgetLeavesTheOthers() {
        by(24, "No TOLD ones (0), NOTES (1), MARKS (2)");
        int[][] left = {{0, 2, 3}, {1, 0, 3}, {1, 2, 0}};
        for (int what = 0; what < 3; what++) {
            PaperHears x = twoAndTwo();
            x.told(0, 0, 1);
            for (int k = 0; k < 3; k++) {
                x.mark(0, 1, 0, 0);
                if (k > 0) {
                    x.note(0, 1, 0, 9);
                }
            }
            due("forget(" + what + ")", x.forget(what), what + 1);
            for (int k = 0; k < 3; k++) {
                due("count(" + (5 + k) + ") behind forget(" + what + ")", x.count(5 + k), left[what][k]);
            }
        }
    }

    static void promise24ForgetRefusesBad() {
        by(24, "BAD");
        bounds("forget", Sentences::twoAndTwo, (x, a) -> x.forget(a[0]), 0, 2);
    }

    static void promise25IsRefusesBad() {
        by(25, "BAD");
        bounds("is", Sentences::twoAndTwo, (x, a) -> x.is(a[0]), 0, 1);
        bounds("is", Sentences::eightAndThree, (x, a) -> x.is(a[0]), 0, 7);
        due("is(0), nothing said", new PaperHears().is(0), BAD);
    }

    static void promise26LookOfNoKind() {
        by(26, "NONE");
        PaperHears x = twoAndTwo();
        due("look(1), no note", x.look(1), 0);
        x.note(1, 1, 0, 20);
        due("look(1)", x.look(1), NONE);
        x.forget(1);
        due("look(1), forgotten", x.look(1), 0);
        refused("look", x, 0, 0, 0);
    }

    static void promise26LookRefusesBad() {
        by(26, "BAD");
        bounds("look", Sentences::twoAndTwo, (x, a) -> x.look(a[0]), 0, 1);
        bounds("look", Sentences::eightAndThree, (x, a) -> x.look(a[0]), 0, 7);
        due("look(0), nothing said", new PaperHears().look(0), BAD);
    }

    static void promise27KindsRefusesBad() {
        by(27, "BAD");
        bounds("kinds", Sentences::twoAndTwo, (x, a) -> x.kinds(a[0]), 0, 1);
        bounds("kinds", Sentences::eightAndThree, (x, a) -> x.kinds(a[0]), 0, 2);
        due("kinds(0), nobody", new PaperHears().kinds(0), BAD);
    }

    static void promise28AskOfNoKind() {
        by(28, "NONE");
        PaperHears x = twoAndTwo();
        due("ask(1), no mark", x.ask(1), 104);
        x.mark(1, 0, 0, 1);
        due("ask(1)", x.ask(1), NONE);
        x.forget(2);
        due("ask(1), forgotten", x.ask(1), 104);
        refused("ask", x, 0, 0, 0);
    }

    static void promise28AskRefusesBad() {
        by(28, "BAD");
        bounds("ask", Sentences::twoAndTwo, (x, a) -> x.ask(a[0]), 0, 1);
        bounds("ask", Sentences::eightAndThree, (x, a) -> x.ask(a[0]), 0, 2);
        due("ask(0), nobody", new PaperHears().ask(0), BAD);
    }

    static void promise29BrothersTellHowMany() {
        by(29, "how many (k = NONE), the k-th");
        PaperHears x = told("house;say 0 1 9;say 0 1 9;ear 0 0;ear 0 0;strip 1;");
        due("brothers(-1)", x.brothers(-1), 1);
        due("brothers(0)", x.brothers(0), 11);
    }

    static void promise29BrothersThatAreNotSoMany() {
        by(29, "-5: not so many");
        PaperHears x = told("house;say 0 1 9;say 0 1 9;ear 0 0;ear 0 0;strip 1;");
        due("brothers(1)", x.brothers(1), -5);
        due("brothers(16)", x.brothers(16), -5);
        due("brothers(MAX)", x.brothers(Integer.MAX_VALUE), -5);
        refused("brothers", x, 0, 0, 0);
    }

    static void promise29BrothersRefuseBadAndNo() {
        by(29, "BAD: -10: k below -1, too; NO: -3");
        PaperHears x = new PaperHears();
        due("brothers(-2), nobody", x.brothers(-2), -10);
        due("brothers(MIN), nobody", x.brothers(Integer.MIN_VALUE), -10);
        due("brothers(-1), nobody", x.brothers(-1), -3);
        due("brothers(MAX), nobody", x.brothers(Integer.MAX_VALUE), -3);
        refused("brothers", x, 2, 2, 0);
        PaperHears y = twoAndTwo();
        due("brothers(-2)", y.brothers(-2), -10);
        due("brothers(-10)", y.brothers(-10), -10);
        refused("brothers", y, 2, 0, 0);
    }

    static void promise30HoldsRefusesBad() {
        by(30, "BAD");
        bounds("holds", Sentences::twoAndTwo, (x, a) -> x.holds(a[0], a[1], a[2]), 0, 1, 0, 1, 0, 10);
        bounds("holds", Sentences::eightAndThree, (x, a) -> x.holds(a[0], a[1], a[2]), 0, 2, 0, 7, 0, 10);
        PaperHears x = told("house;say 0 0 9;ear 0 0;strip 0;");
        chance(x, 0, 0, 5, 1, 2);
        due("holds(0, 0, 11)", x.holds(0, 0, 11), BAD);
        due("part(0), as before", x.part(0), 1);
        due("part(1), as before", x.part(1), 2);
    }

    static void promise31JobsRefusesBad() {
        by(31, "BAD");
        bounds("jobs", PaperHears::new, (x, a) -> x.jobs(a[0], a[1]), 0, 999999, 0, 60);
    }

    // ---- Promises 32 to 37: what there is

    static void promise32PartRefusesBad() {
        by(32, "BAD");
        bounds("part", PaperHears::new, (x, a) -> x.part(a[0]), 0, 1);
    }

    static void promise33AnImageIsKeptAnew() {
        by(33, "An IMAGE is kept: 1");
        PaperHears x = new PaperHears();
        due("image(0), of nothing", x.image(0), 1);
        x.say(0, 0, 9);
        due("image(1)", x.image(1), 1);
        x.say(0, 0, 9);
        due("image(0) anew", x.image(0), 1);
        x.house();
        due("from(0)", x.from(0), 1);
        due("count(0)", x.count(0), 2);
        due("from(1)", x.from(1), 1);
        due("count(0)", x.count(0), 1);
        due("image(1), as it is", x.image(1), 1);
        refused("image", x, 0, 0, 0);
    }

    static void promise33ImageRefusesBad() {
        by(33, "BAD");
        bounds("image", Sentences::twoAndTwo, (x, a) -> x.image(a[0]), 0, 1);
        PaperHears x = twoAndTwo();
        x.image(-1);
        x.image(2);
        due("from(0), none was kept", x.from(0), NO);
        due("from(1), none was kept", x.from(1), NO);
    }

    static void promise34FromRefusesBad() {
        by(34, "BAD");
        bounds("from", Sentences::twoAndTwo, (x, a) -> x.from(a[0]), 0, 1);
        bounds("from", PromiseBoundaryTest::withImages, (x, a) -> x.from(a[0]), 0, 1);
    }

    private static PaperHears withImages() {
        PaperHears x = twoAndTwo();
        x.image(0);
        x.image(1);
        return x;
    }

    static void promise34FromAnImageThatWasNotKept() {
        by(34, "NO: none was kept");
        PaperHears x = twoAndTwo();
        due("from(0)", x.from(0), NO);
        due("from(1)", x.from(1), NO);
        x.image(0);
        due("from(1), but the other", x.from(1), NO);
        due("from(0)", x.from(0), 1);
        refused("from", x, 0, 3, 0);
        due("count(0)", x.count(0), 2);
        PaperHears y = new PaperHears();
        y.image(1);
        due("from(0), but the other", y.from(0), NO);
        y.say(0, 0, 1);
        due("from(1), an empty one", y.from(1), 1);
        due("count(0)", y.count(0), 0);
    }

    static void promise35StatusOfAnother() {
        by(35, "-1: another what (counts as BAD)");
        PaperHears x = new PaperHears();
        int[] others = {-1, 3, -2, 4, Integer.MIN_VALUE, Integer.MAX_VALUE};
        for (int k = 0; k < others.length; k++) {
            due("status(" + others[k] + ")", x.status(others[k]), -1);
            due("status(0)", x.status(0), k + 1);
        }
        refused("status", x, others.length, 0, 0);
    }

    static void promise36CountRefusesBad() {
        by(36, "BAD");
        bounds("count", PaperHears::new, (x, a) -> x.count(a[0]), 0, 9);
    }

    static void promise36CountsWhatIsFull() {
        by(36, "0 SAYINGS, 1 LISTENERS, 2 the MINUTE, 3 ROOMS that are STRIPPED, 4 SAYINGS that somebody KNOWS");
        PaperHears x = fullOfAll();
        int[] most = {8, 3, 9, 4, 8, 5, 6, 6, 8, 150};
        for (int what = 0; what < most.length; what++) {
            due("count(" + what + ")", x.count(what), most[what]);
        }
    }

    /** Eight sayings that are known, three listeners, all that is told, and a text of 150 bytes. */
    private static PaperHears fullOfAll() {
        PaperHears x = told("house;say 5 3 9;say 0 0 9;say 0 1 9;say 0 1 8;say 0 2 9;say 0 2 8;say 0 0 8;say 0 3 9;"
            + "ear 5 0;ear 0 0;ear 2 0;" + times(4, "strip 0;") + times(8, " "));
        for (int r = 3; r >= 0; r--) {
            x.strips(r);
            x.goes(0, r);
            x.minutes(r == 0 ? 3 : 2);
        }
        for (int k = 1; k <= 6; k++) {
            x.told(k % 4, 30 - k, 99 - k);
            x.note(8 - k, 10 - k, 29, 20);
            x.mark(k % 3, 20, 99, k % 2);
        }
        return x;
    }

    static void promise37DigestOfNothing() {
        by(37, "h = 1583; then h = 31 h + v for each v");
        due("digest()", new PaperHears().digest(), hash(List.of(0, 0, 0, 0, 0, 0, 0, 0, 0, 0, -1, -1, -1, -1, 0, 1)));
    }

    static void promise37DigestOfAllThatIsFull() {
        by(37, "of SAYINGS KIND, ROOM, LOUD; of LISTENERS KIND, ROOM, KNOWS; of TOLD r, m, x; of NOTES s, l, m, x; of MARKS i, x, y, heard");
        PaperHears x = fullOfAll();
        List<Integer> v = new ArrayList<>(List.of(8, 3, 9, 4, 8, 5, 6, 6, 8, 150));
        v.addAll(List.of(3, 5, 7, 9));
        v.addAll(List.of(5, 3, 9, 0, 0, 9, 0, 1, 9, 0, 1, 8, 0, 2, 9, 0, 2, 8, 0, 0, 8, 0, 3, 9));
        v.addAll(List.of(5, 0, 255, 0, 0, 66, 2, 0, 66));
        for (int k = 1; k <= 5; k++) {
            v.addAll(List.of(k % 4, 30 - k, 99 - k));
        }
        for (int k = 1; k <= 6; k++) {
            v.addAll(List.of(8 - k, 10 - k, 29, 20));
        }
        for (int k = 1; k <= 6; k++) {
            v.addAll(List.of(k % 3, 20, 99, k % 2));
        }
        x.holds(2, 1, 10);
        List<Integer> none = new ArrayList<>(v);
        none.addAll(List.of(0, 1));
        due("digest(), beyond what a long holds", x.digest(), hash(none));
        x.house();
        read(x, "house;say 0 0 9;ear 0 0;strip 0;");
        x.holds(0, 0, 3);
        due("digest(), with the fraction", x.digest(), hash(List.of(1, 1, 0, 1, 0, 0, 0, 0, 0, 32, 0, -1, -1, -1, 0, 0, 9, 0, 0, 0, 7, 10)));
    }
}
