/** For each promise of the document what is due, as told there: ordinary calls, edges, wrong ones. */
public final class PromiseTest {
    private static int wrong = 0;
    private static int promise = 0;

    private static void due(String call, long got, long want) {
        if (got != want) {
            wrong++;
            System.out.println("promise " + promise + ": " + call + " answered " + got + ", due is " + want);
        }
    }

    private static void refused(String call, PaperHears x, int bad, int no, int full) {
        due("status(0) behind " + call, x.status(0), bad);
        due("status(1) behind " + call, x.status(1), no);
        due("status(2) behind " + call, x.status(2), full);
    }

    /** The text takes the place of the one before. */
    private static int read(PaperHears x, String text) {
        x.clear();
        for (int k = 0; k < text.length(); k++) {
            x.type(text.charAt(k));
        }
        return x.read();
    }

    private static void fault(PaperHears x, String text, int place) {
        x.clear();
        long before = x.digest();
        due("read() of \"" + text + "\"", read(x, text), -10 - place);
        due("clear() behind \"" + text + "\"", x.clear(), text.length());
        due("digest() behind \"" + text + "\"", x.digest(), before);
    }

    private static PaperHears told(String text) {
        PaperHears x = new PaperHears();
        int answer = read(x, text);
        if (answer < 0) {
            due("read() of \"" + text + "\"", answer, 1);
        }
        return x;
    }

    private static long hash(long... v) {
        long h = 1583;
        for (long one : v) {
            h = 31 * h + one;
        }
        return h;
    }

    public static void main(String[] args) {
        newObject();
        house();
        say();
        ear();
        type();
        clear();
        read();
        readFaults();
        strips();
        papers();
        goes();
        minutes();
        lastMinute();
        undo();
        of();
        about();
        listenersHear();
        room();
        loud();
        first();
        stay();
        stand();
        told();
        said();
        note();
        mark();
        forget();
        is();
        look();
        kinds();
        ask();
        brothers();
        holds();
        jobs();
        part();
        image();
        from();
        status();
        count();
        digest();
        System.out.println(wrong == 0 ? "all promises hold" : wrong + " answers are not as promised");
        if (wrong != 0) {
            System.exit(1);
        }
    }

    private static void newObject() {
        promise = 1;
        PaperHears x = new PaperHears();
        due("NONE", PaperHears.NONE, -1);
        due("BAD", PaperHears.BAD, -2);
        due("NO", PaperHears.NO, -3);
        due("FULL", PaperHears.FULL, -4);
        for (int what = 0; what < 10; what++) {
            due("count(" + what + ")", x.count(what), 0);
        }
        refused("new", x, 0, 0, 0);
        for (int r = 0; r < 4; r++) {
            due("room(" + r + ", 0)", x.room(r, 0), -1);
            due("room(" + r + ", 1)", x.room(r, 1), 0);
        }
        due("part(0)", x.part(0), 0);
        due("part(1)", x.part(1), 1);
        due("from(0)", x.from(0), -3);
        due("from(1)", x.from(1), -3);
        due("undo()", x.undo(), -3);
        PaperHears other = new PaperHears();
        x.say(0, 0, 1);
        due("count(0) of another", other.count(0), 0);
    }

    private static void house() {
        promise = 2;
        PaperHears x = told("house; say 0 0 8; say 0 0 1; ear 0 0; strip 0;");
        x.image(0);
        x.told(0, 0, 1);
        x.note(0, 1, 0, 1);
        x.mark(0, 1, 0, 1);
        x.minutes(1);
        x.holds(0, 0, 5);
        x.say(9, 9, 9);
        due("house()", x.house(), 2);
        for (int what = 0; what < 9; what++) {
            due("count(" + what + ")", x.count(what), 0);
        }
        due("count(9)", x.count(9), 46);
        due("part(0)", x.part(0), 1);
        due("part(1)", x.part(1), 2);
        due("status(0)", x.status(0), 1);
        due("room(0, 0)", x.room(0, 0), -1);
        due("undo()", x.undo(), -3);
        due("house()", x.house(), 0);
        due("from(0)", x.from(0), 1);
        due("count(0)", x.count(0), 2);
        x.house();
        due("ear(0)", x.ear(0), 0);
        due("about(0, 2)", x.about(0, 2), 0);
    }

    private static void say() {
        promise = 3;
        PaperHears x = new PaperHears();
        due("say(-1, 0, 1)", x.say(-1, 0, 1), -2);
        due("say(6, 0, 1)", x.say(6, 0, 1), -2);
        due("say(0, -1, 1)", x.say(0, -1, 1), -2);
        due("say(0, 4, 1)", x.say(0, 4, 1), -2);
        due("say(0, 0, 0)", x.say(0, 0, 0), -2);
        due("say(0, 0, 10)", x.say(0, 0, 10), -2);
        due("say(0, MIN, 1)", x.say(0, Integer.MIN_VALUE, 1), -2);
        for (int s = 0; s < 8; s++) {
            due("say()", x.say(s % 6, s % 4, 9 - s), s);
        }
        due("say(5, 3, 9)", x.say(5, 3, 9), -4);
        due("say(6, 3, 9)", x.say(6, 3, 9), -2);
        refused("say", x, 8, 0, 1);
        due("count(0)", x.count(0), 8);
        due("of(7, 2)", x.of(7, 2), 2);
    }

    private static void ear() {
        promise = 4;
        PaperHears x = new PaperHears();
        due("ear(-1)", x.ear(-1), -2);
        due("ear(6)", x.ear(6), -2);
        due("ear(5)", x.ear(5), 0);
        due("ear(0)", x.ear(0), 1);
        due("ear(3)", x.ear(3), 2);
        due("ear(3)", x.ear(3), -4);
        due("ear(6)", x.ear(6), -2);
        refused("ear", x, 3, 0, 1);
        due("about(2, 0)", x.about(2, 0), 3);
        due("about(2, 1)", x.about(2, 1), 0);
        due("about(2, 2)", x.about(2, 2), 0);
    }

    private static void type() {
        promise = 5;
        PaperHears x = new PaperHears();
        due("type(-1)", x.type(-1), -2);
        due("type(128)", x.type(128), -2);
        due("type(0)", x.type(0), 1);
        for (int k = 2; k <= 150; k++) {
            due("type(127)", x.type(127), k);
        }
        due("type(32)", x.type(32), -4);
        due("type(128)", x.type(128), -2);
        due("count(9)", x.count(9), 150);
        refused("type", x, 3, 0, 1);
        due("clear()", x.clear(), 150);
        due("type(32)", x.type(32), 1);
    }

    private static void clear() {
        promise = 6;
        PaperHears x = new PaperHears();
        due("clear()", x.clear(), 0);
        x.type(104);
        x.type(104);
        due("clear()", x.clear(), 2);
        due("clear()", x.clear(), 0);
        due("count(9)", x.count(9), 0);
        due("read() of \"house;\"", read(x, "house;"), 1);
        due("clear()", x.clear(), 6);
    }

    private static void read() {
        promise = 7;
        PaperHears x = new PaperHears();
        x.say(0, 0, 1);
        x.ear(0);
        x.told(0, 0, 0);
        x.note(0, 1, 0, 0);
        x.mark(0, 1, 0, 0);
        x.minutes(5);
        due("read()", read(x, "  house;say 3 2 09 ;say0 0 1;ear 5 2;strip 2;minutes 30;paper 3;strip 0;minutes1; "), 9);
        due("count(9)", x.count(9), 82);
        due("count(0)", x.count(0), 2);
        due("count(1)", x.count(1), 1);
        due("count(2)", x.count(2), 31);
        due("count(3)", x.count(3), 2);
        due("count(4)", x.count(4), 1);
        for (int what = 5; what < 9; what++) {
            due("count(" + what + ")", x.count(what), 0);
        }
        due("of(0, 0)", x.of(0, 0), 3);
        due("of(0, 1)", x.of(0, 1), 2);
        due("of(0, 2)", x.of(0, 2), 9);
        due("about(0, 0)", x.about(0, 0), 5);
        due("about(0, 1)", x.about(0, 1), 2);
        due("about(0, 2)", x.about(0, 2), 1);
        due("room(2, 0)", x.room(2, 0), -1);
        due("room(0, 0)", x.room(0, 0), 1);
        due("undo()", x.undo(), -3);
        due("read() again", x.read(), 9);
        due("papers", read(x, "house;strip 1;paper 1;strip 2;minutes 99;"), 5);
        due("count(3)", x.count(3), 1);
        due("count(2)", x.count(2), 99);
        due("eight and three", read(x, "house;say 0 0 1;say 0 0 1;say 0 0 1;say 0 0 1;say 0 0 1;say 0 0 1;"
            + "say 5 3 9;say 0 0 1;ear 0 0;ear 0 0;ear 5 3;"), 12);
        x.holds(0, 0, 1);
        x.image(1);
        due("a house alone", read(x, "house;"), 1);
        due("count(0)", x.count(0), 0);
        due("from(1)", x.from(1), 1);
        refused("read", x, 0, 1, 0);
    }

    private static void readFaults() {
        PaperHears x = told("house;say 1 1 1;strip 1;minutes 2;");
        fault(x, "", 0);
        fault(x, "   ", 3);
        fault(x, "hous", 0);
        fault(x, "house", 5);
        fault(x, "house ", 6);
        fault(x, "houses;", 0);
        fault(x, "House;", 0);
        fault(x, ";house;", 0);
        fault(x, " say 0 0 1;house;", 1);
        fault(x, "house;house;", 6);
        fault(x, "house;strip 0;house;", 14);
        fault(x, "house;;", 6);
        fault(x, "house 1;", 6);
        fault(x, "house;strop 0;", 6);
        fault(x, "house;say 0 0;", 13);
        fault(x, "house;say 0 0 1", 15);
        fault(x, "house;say 0 0 1 1;", 16);
        fault(x, "house;say 6 0 1;", 10);
        fault(x, "house;say 0 4 1;", 12);
        fault(x, "house;say 0 0 0;", 14);
        fault(x, "house;say 0 0 10;", 14);
        fault(x, "house;say 0 0 001;", 14);
        fault(x, "house;say 000 0 1;", 10);
        fault(x, "house;say0001;", 9);
        fault(x, "house;say 00 1;", 14);
        fault(x, "house;ear 6 0;", 10);
        fault(x, "house;ear 0 4;", 12);
        fault(x, "house;ear 0;", 11);
        fault(x, "house;strip 4;", 12);
        fault(x, "house;paper 4;", 12);
        fault(x, "house;paper;", 11);
        fault(x, "house;minutes 0;", 14);
        fault(x, "house;minutes 100;", 14);
        fault(x, "house;minutes 1x;", 15);
        fault(x, "house;minutes -1;", 14);
        fault(x, "house;strip 0\t;", 13);
        fault(x, "house;strip 0; 5", 15);
        fault(x, "house;say 0 0 1;say 0 0 1;say 0 0 1;say 0 0 1;say 0 0 1;say 0 0 1;say 0 0 1;say 0 0 1;say 9", 86);
        fault(x, "house;ear 0 0;ear 0 0;ear 0 0;ear 0 0;", 30);
        refused("faults", x, 0, 0, 0);
        due("room(1, 0)", x.room(1, 0), 2);
        due("count(2)", x.count(2), 2);
    }

    private static void strips() {
        promise = 8;
        PaperHears x = new PaperHears();
        x.say(2, 1, 9);
        x.say(1, 1, 4);
        x.say(0, 2, 9);
        due("strips(-1)", x.strips(-1), -2);
        due("strips(4)", x.strips(4), -2);
        due("strips(1)", x.strips(1), 15);
        due("strips(0)", x.strips(0), 0);
        x.minutes(4);
        due("room(1, 0)", x.room(1, 0), 4);
        due("strips(1) again", x.strips(1), 15);
        due("room(1, 0)", x.room(1, 0), 0);
        due("room(0, 0)", x.room(0, 0), 4);
        due("count(3)", x.count(3), 2);
        due("count(8)", x.count(8), 4);
        x.minutes(30);
        due("room(1, 0)", x.room(1, 0), -1);
        due("strips(1) behind its silence", x.strips(1), 15);
        due("room(1, 0)", x.room(1, 0), 0);
    }

    private static void papers() {
        promise = 9;
        PaperHears x = new PaperHears();
        due("papers(4)", x.papers(4), -2);
        due("papers(-1)", x.papers(-1), -2);
        due("papers(3)", x.papers(3), -3);
        x.strips(3);
        due("papers(3)", x.papers(3), 1);
        due("papers(3)", x.papers(3), -3);
        due("count(3)", x.count(3), 0);
        due("room(3, 0)", x.room(3, 0), -1);
        due("count(8)", x.count(8), 2);
        x.strips(3);
        x.minutes(99);
        due("papers(3), silent", x.papers(3), 1);
        refused("papers", x, 2, 2, 0);
    }

    private static void goes() {
        promise = 10;
        PaperHears x = new PaperHears();
        due("goes(0, 0)", x.goes(0, 0), -2);
        x.ear(0);
        due("goes(1, 0)", x.goes(1, 0), -2);
        due("goes(-1, 0)", x.goes(-1, 0), -2);
        due("goes(0, 4)", x.goes(0, 4), -2);
        due("goes(0, -1)", x.goes(0, -1), -2);
        due("goes(0, 0)", x.goes(0, 0), -3);
        due("goes(0, 3)", x.goes(0, 3), 0);
        due("goes(0, 3)", x.goes(0, 3), -3);
        due("goes(0, 1)", x.goes(0, 1), 3);
        due("about(0, 1)", x.about(0, 1), 1);
        due("count(8)", x.count(8), 2);
        refused("goes", x, 5, 2, 0);
    }

    private static void minutes() {
        promise = 11;
        PaperHears x = told("house;say 0 0 8;say 0 0 1;say 1 1 9;ear 0 0;ear 2 1;");
        due("minutes(0)", x.minutes(0), -2);
        due("minutes(100)", x.minutes(100), -2);
        due("minutes(-1)", x.minutes(-1), -2);
        due("minutes(1), nothing stripped", x.minutes(1), 0);
        x.strips(0);
        due("minutes(1)", x.minutes(1), 1);
        due("about(0, 2)", x.about(0, 2), 1);
        x.strips(1);
        due("minutes(99)", x.minutes(99), 2);
        due("about(1, 2)", x.about(1, 2), 4);
        due("count(2)", x.count(2), 101);
        due("count(8)", x.count(8), 5);
        due("room(0, 0)", x.room(0, 0), -1);
        x.strips(0);
        x.papers(0);
        x.goes(1, 0);
        due("minutes(5), papered", x.minutes(5), 2);
        refused("minutes", x, 3, 0, 0);
    }

    private static void lastMinute() {
        PaperHears x = told("house;say 0 0 8;ear 0 0;");
        for (int k = 0; k < 101; k++) {
            x.minutes(99);
        }
        due("count(2)", x.count(2), 9999);
        x.strips(0);
        due("minutes(1) at the last", x.minutes(1), 0);
        due("count(2)", x.count(2), 9999);
        due("about(0, 3)", x.about(0, 3), 1);
        due("about(0, 2)", x.about(0, 2), 0);
        due("room(0, 0)", x.room(0, 0), 0);
        due("undo()", x.undo(), 9999);
        due("room(0, 0)", x.room(0, 0), 0);
        due("undo()", x.undo(), 9999);
        due("room(0, 0)", x.room(0, 0), -1);
        due("undo()", x.undo(), 9900);
        due("minutes(98)", x.minutes(98), 0);
        due("count(2)", x.count(2), 9998);
        x.strips(0);
        due("minutes(99), one goes by", x.minutes(99), 1);
        due("count(2)", x.count(2), 9999);
        due("room(0, 0)", x.room(0, 0), 1);
        x.house();
        x.say(3, 0, 9);
        x.ear(1);
        for (int k = 0; k < 101; k++) {
            x.minutes(99);
        }
        x.strips(0);
        due("first(0, 0) beyond the last", x.first(0, 0), 0);
        due("stay(0, 1, 0, 0) beyond the last", x.stay(0, 1, 0, 0), 1);
        x.ear(0);
        due("stand(3, 0) beyond the last", x.stand(3, 0), 1);
        int known = x.jobs(5, 60);
        due("count(2)", x.count(2), 9999);
        PaperHears y = told("house;say 3 0 9;ear 1 0;ear 0 0;strip 0;");
        due("jobs(5, 60) is as early on", known, y.jobs(5, 60));
    }

    private static void undo() {
        promise = 12;
        PaperHears x = told("house;say 0 0 8;ear 0 0;");
        due("undo()", x.undo(), -3);
        x.strips(0);
        x.minutes(7);
        x.strips(0);
        x.papers(0);
        x.goes(0, 2);
        due("undo() of going", x.undo(), 7);
        due("about(0, 1)", x.about(0, 1), 0);
        due("undo() of papering", x.undo(), 7);
        due("room(0, 0)", x.room(0, 0), 0);
        due("undo() of stripping", x.undo(), 7);
        due("room(0, 0)", x.room(0, 0), 7);
        due("about(0, 2)", x.about(0, 2), 1);
        due("undo() of minutes", x.undo(), 0);
        due("about(0, 2)", x.about(0, 2), 0);
        due("room(0, 0)", x.room(0, 0), 0);
        due("undo() of the first", x.undo(), 0);
        due("count(3)", x.count(3), 0);
        due("undo()", x.undo(), -3);
        for (int k = 1; k <= 10; k++) {
            x.minutes(1);
        }
        due("count(8)", x.count(8), 8);
        for (int k = 9; k >= 2; k--) {
            due("undo()", x.undo(), k);
        }
        due("undo()", x.undo(), -3);
        x.minutes(1);
        x.say(9, 0, 0);
        x.ear(6);
        due("count(8) behind refused ones", x.count(8), 1);
        x.say(0, 0, 1);
        due("undo() behind a saying", x.undo(), -3);
        x.minutes(1);
        x.ear(0);
        due("undo() behind a listener", x.undo(), -3);
        x.minutes(1);
        x.told(0, 0, 0);
        due("undo() behind a told one", x.undo(), 4);
        due("count(5)", x.count(5), 1);
        refused("undo", x, 2, 5, 0);
        undoOfThree();
    }

    private static void undoOfThree() {
        PaperHears x = told("house;say 0 1 9;say 0 2 9;say 0 3 9;ear 0 1;ear 0 2;ear 0 3;strip 0;strip 3;minutes 2;strip 1;");
        due("minutes(1)", x.minutes(1), 2);
        x.strips(2);
        x.minutes(1);
        x.goes(0, 0);
        x.goes(1, 0);
        x.goes(2, 0);
        x.papers(0);
        x.papers(1);
        due("count(8)", x.count(8), 8);
        for (int k = 0; k < 5; k++) {
            x.undo();
        }
        for (int r = 0; r < 4; r++) {
            due("room(" + r + ", 0)", x.room(r, 0), new int[] {4, 2, 1, 4}[r]);
        }
        for (int i = 0; i < 3; i++) {
            due("about(" + i + ", 1)", x.about(i, 1), i + 1);
            due("about(" + i + ", 2)", x.about(i, 2), 1 << i);
        }
        x.undo();
        due("about(1, 2)", x.about(1, 2), 0);
        due("about(0, 2)", x.about(0, 2), 1);
        x.undo();
        due("room(2, 0)", x.room(2, 0), -1);
        due("undo() of the minute", x.undo(), 2);
        due("about(0, 2)", x.about(0, 2), 0);
        due("about(2, 2)", x.about(2, 2), 4);
        due("room(1, 0)", x.room(1, 0), 0);
        due("room(3, 0)", x.room(3, 0), 2);
    }

    private static void of() {
        promise = 13;
        PaperHears x = new PaperHears();
        due("of(0, 0)", x.of(0, 0), -2);
        x.say(4, 3, 7);
        x.say(1, 2, 9);
        due("of(0, 0)", x.of(0, 0), 4);
        due("of(0, 1)", x.of(0, 1), 3);
        due("of(0, 2)", x.of(0, 2), 7);
        due("of(1, 1)", x.of(1, 1), 2);
        due("of(0, 3)", x.of(0, 3), -2);
        due("of(0, -1)", x.of(0, -1), -2);
        due("of(2, 0)", x.of(2, 0), -2);
        due("of(-1, 0)", x.of(-1, 0), -2);
        refused("of", x, 5, 0, 0);
    }

    private static void about() {
        promise = 14;
        PaperHears x = told("house;say 0 1 9;say 0 1 3;say 0 0 9;ear 4 1;ear 0 1;strip 1;");
        due("about(0, 0)", x.about(0, 0), 4);
        due("about(0, 1)", x.about(0, 1), 1);
        due("about(0, 2)", x.about(0, 2), 0);
        due("about(0, 3)", x.about(0, 3), 3);
        due("about(1, 3)", x.about(1, 3), 3);
        x.minutes(8);
        due("about(1, 2)", x.about(1, 2), 3);
        due("about(1, 3)", x.about(1, 3), 1);
        x.minutes(22);
        due("about(1, 3), silent", x.about(1, 3), 0);
        PaperHears y = told("house;say 5 2 9;say 4 2 1;ear 0 2;strip 2;");
        due("about(0, 3): the door over the other", y.about(0, 3), 1);
        y.minutes(1);
        due("about(0, 3): neither", y.about(0, 3), 0);
        due("about(0, -1)", x.about(0, -1), -2);
        due("about(0, 4)", x.about(0, 4), -2);
        due("about(2, 0)", x.about(2, 0), -2);
        due("about(-1, 0)", x.about(-1, 0), -2);
        refused("about", x, 4, 0, 0);
    }

    /** Each kind of listener in one room with a saying of 3 and others together as told. */
    private static void listenersHear() {
        due("alone", heardBy("say 0 0 3;"), 0b110101);
        due("one of 1 alone", heardBy("say 0 0 1;"), 0b110101);
        due("beside 9", heardBy("say 0 0 3;say 0 0 9;"), 0b110101);
        due("beside 12", heardBy("say 0 0 3;say 0 0 9;say 0 0 3;"), 0b110100);
        due("beside 18", heardBy("say 0 0 3;say 0 0 9;say 0 0 9;"), 0b110100);
        due("beside 20", heardBy("say 0 0 3;say 2 0 9;say 0 0 7;"), 0b100000);
        due("4 beside 12", heardBy("say 0 0 4;say 0 0 9;say 0 0 3;"), 0b110101);
        due("5 beside 13", heardBy("say 0 0 5;say 0 0 9;say 0 0 4;"), 0b111101);
        due("5 beside 12", heardBy("say 0 0 5;say 0 0 9;say 0 0 3;"), 0b110101);
        due("4 alone", heardBy("say 0 0 4;"), 0b111111);
        due("1 beside 22: below 0, with 2 more still not heard", heardBy("say 0 0 1;say 2 0 9;say 2 0 5;"), 0b100000);
        due("1 beside 26", heardBy("say 0 0 1;say 2 0 9;say 2 0 9;"), 0);
        due("not loud", heardBy("say 4 0 9;minutes 1;say 0 0 1;"), 0);
    }

    /** Kinds of listeners that hear saying 0, as bits. */
    private static int heardBy(String sayings) {
        int bits = 0;
        for (int kind = 0; kind < 6; kind++) {
            PaperHears x = told("house;strip 0;" + sayings + "ear " + kind + " 0;");
            bits |= (x.about(0, 3) & 1) << kind;
        }
        return bits;
    }

    private static void room() {
        promise = 15;
        PaperHears x = told("house;say 0 1 9;say 5 1 2;strip 1;");
        due("room(1, 0)", x.room(1, 0), 0);
        due("room(1, 1)", x.room(1, 1), 15);
        x.minutes(1);
        due("room(1, 1)", x.room(1, 1), 9);
        x.minutes(28);
        due("room(1, 0)", x.room(1, 0), 29);
        due("room(1, 1)", x.room(1, 1), 2);
        x.minutes(1);
        due("room(1, 0), silent", x.room(1, 0), -1);
        due("room(1, 1), silent", x.room(1, 1), 0);
        due("room(0, 0)", x.room(0, 0), -1);
        due("room(3, 1)", x.room(3, 1), 0);
        due("room(4, 0)", x.room(4, 0), -2);
        due("room(-1, 0)", x.room(-1, 0), -2);
        due("room(0, 2)", x.room(0, 2), -2);
        due("room(0, -1)", x.room(0, -1), -2);
        refused("room", x, 4, 0, 0);
    }

    private static void loud() {
        promise = 16;
        PaperHears x = told("house;say 0 0 9;say 1 0 9;say 2 0 9;say 3 0 9;say 4 0 9;say 5 0 9;say 0 0 1;say 1 0 8;");
        int[] minutes = {0, 2, 3, 4, 5, 10, 19, 20, 21, 25, 28, 29};
        int[][] want = {
            {9, 9, 9, 8, 8, 7, 5, 4, 4, 3, 2, 2},
            {5, 5, 5, 4, 4, 4, 3, 2, 2, 2, 1, 1},
            {13, 13, 9, 8, 8, 7, 5, 4, 4, 3, 2, 2},
            {5, 5, 5, 4, 4, 4, 3, 5, 5, 5, 4, 4},
            {9, 0, 0, 0, 8, 7, 0, 4, 0, 3, 0, 0},
            {13, 13, 0, 8, 0, 7, 0, 4, 0, 0, 2, 0},
            {1, 1, 1, 0, 0, 0, 0, 0, 0, 0, 0, 0},
            {4, 4, 4, 4, 4, 3, 2, 2, 2, 1, 1, 1},
        };
        for (int s = 0; s < want.length; s++) {
            for (int k = 0; k < minutes.length; k++) {
                due("loud(" + s + ", " + minutes[k] + ")", x.loud(s, minutes[k]), want[s][k]);
            }
        }
        due("loud(8, 0)", x.loud(8, 0), -2);
        due("loud(-1, 0)", x.loud(-1, 0), -2);
        due("loud(0, 30)", x.loud(0, 30), -2);
        due("loud(0, -1)", x.loud(0, -1), -2);
        refused("loud", x, 4, 0, 0);
    }

    private static void first() {
        promise = 17;
        PaperHears x = told("house;say 3 0 9;say 0 0 9;say 2 0 1;say 0 1 9;ear 1 0;strip 1;strip 0;");
        due("first(0, 0): 5 less 5 less 3 at first", x.first(0, 0), 20);
        due("first(0, 1)", x.first(0, 1), 0);
        due("first(0, 2)", x.first(0, 2), -1);
        due("first(0, 3), of another room", x.first(0, 3), -1);
        x.minutes(5);
        due("first(0, 0)", x.first(0, 0), 15);
        x.minutes(24);
        due("first(0, 0) at 29", x.first(0, 0), 0);
        x.minutes(1);
        due("first(0, 0), silent", x.first(0, 0), -1);
        due("first(1, 0)", x.first(1, 0), -2);
        due("first(-1, 0)", x.first(-1, 0), -2);
        due("first(0, 4)", x.first(0, 4), -2);
        due("first(0, -1)", x.first(0, -1), -2);
        refused("first", x, 4, 0, 0);
        due("count(2)", x.count(2), 30);
    }

    private static void stay() {
        promise = 18;
        PaperHears x = told("house;say 4 0 9;say 5 0 2;say 3 1 9;say 0 1 9;ear 1 3;");
        due("stay(0, 0, 0, -1): nothing needed", x.stay(0, 0, 0, -1), 0);
        due("stay(0, 1, 0, 0)", x.stay(0, 1, 0, 0), 1);
        due("stay(0, 1, 2, 0): the door at once, too", x.stay(0, 1, 2, 0), -1);
        due("stay(0, 2, 0, 0): 6 less 9 by 4 less 3", x.stay(0, 2, 0, 0), 1);
        x.house();
        read(x, "house;say 4 0 9;say 5 0 2;say 3 1 9;say 0 1 9;ear 1 3;say 0 2 9;say 3 2 9;ear 2 0;");
        due("stay(0, 4, 0, 1): the goodbye at 20", x.stay(0, 4, 0, 1), 21);
        due("stay(0, 4, 8, 1): but the other at once", x.stay(0, 4, 8, 1), -1);
        due("stay(0, 8, 4, 1)", x.stay(0, 8, 4, 1), 1);
        due("stay(0, 12, 0, -1)", x.stay(0, 12, 0, -1), 2101);
        due("stay(0, 4, 0, 2)", x.stay(0, 4, 0, 2), -1);
        due("stay(0, 20, 0, -1): in two rooms", x.stay(0, 20, 0, -1), -1);
        due("stay(1, 63, 0, -1)", x.stay(1, 63, 0, -1), -1);
        x.strips(3);
        x.goes(0, 2);
        x.strips(2);
        x.minutes(1);
        due("about(0, 2)", x.about(0, 2), 16);
        due("stay(0, 16, 0, -1): known now", x.stay(0, 16, 0, -1), 0);
        due("stay(0, 0, 16, -1): known, but not heard in them", x.stay(0, 0, 16, -1), 0);
        due("stay(0, 24, 0, -1): the rest in 1", x.stay(0, 24, 0, -1), 101);
        due("stay(0, 8, 16, 1)", x.stay(0, 8, 16, 1), 1);
        due("room(1, 0)", x.room(1, 0), -1);
        due("stay(2, 0, 0, 0)", x.stay(2, 0, 0, 0), -2);
        due("stay(0, 64, 0, 0)", x.stay(0, 64, 0, 0), -2);
        due("stay(0, 0, 64, 0)", x.stay(0, 0, 64, 0), -2);
        due("stay(0, -1, 0, 0)", x.stay(0, -1, 0, 0), -2);
        due("stay(0, 0, -1, 0)", x.stay(0, 0, -1, 0), -2);
        due("stay(0, 3, 2, 0)", x.stay(0, 3, 2, 0), -2);
        due("stay(0, 0, 0, 4)", x.stay(0, 0, 0, 4), -2);
        due("stay(0, 0, 0, -2)", x.stay(0, 0, 0, -2), -2);
        refused("stay", x, 8, 0, 0);
        x.house();
        read(x, "house;say 0 3 9;ear 0 0;");
        due("stay(0, 1, 0, 3)", x.stay(0, 1, 0, 3), 1);
        due("stay(0, 1, 0, 2)", x.stay(0, 1, 0, 2), -1);
        stayLong();
    }

    private static void stayLong() {
        PaperHears x = told("house;say 0 3 1;say 3 3 1;say 5 3 3;say 5 3 3;ear 2 0;");
        due("stay(0, 15, 0, -1): the low ones when the doors are still", x.stay(0, 15, 0, -1), 203);
        x = told("house;say 3 2 1;say 0 2 9;say 0 2 9;say 2 2 7;ear 0 0;");
        due("stay(0, 1, 0, -1): only behind 20", x.stay(0, 1, 0, -1), 2102);
        x = told("house;say 3 2 1;say 3 2 9;say 3 2 9;say 3 2 9;ear 0 0;");
        due("stay(0, 1, 0, 2): 3 beside 12 at 29", x.stay(0, 1, 0, 2), -1);
    }

    private static void stand() {
        promise = 19;
        PaperHears x = new PaperHears();
        due("stand(1, 0)", x.stand(1, 0), -3);
        x.ear(0);
        due("stand(1, 0)", x.stand(1, 0), -3);
        due("stand(0, 0)", x.stand(0, 0), -2);
        x.ear(1);
        due("stand(1, 0), nothing said", x.stand(1, 0), 0);
        due("stand(1, 1), nothing said", x.stand(1, 1), 0);
        read(x, "house;say 0 0 1;say 0 1 5;say 0 1 6;say 0 2 9;say 3 3 9;ear 0 0;ear 1 0;ear 2 1;");
        due("stand(1, 0)", x.stand(1, 0), 3);
        due("stand(1, 1): of like ones the least", x.stand(1, 1), 1);
        due("stand(30, 0)", x.stand(30, 0), 3);
        read(x, "house;say 0 1 2;say 0 3 9;ear 0 0;ear 1 0;");
        due("stand(1, 1): who hears less to the louder", x.stand(1, 1), 13);
        read(x, "house;say 4 2 9;say 2 2 5;ear 0 2;ear 0 2;ear 5 0;strip 2;minutes 1;");
        due("stand(30, 0): all known already", x.stand(30, 0), 2);
        due("stand(30, 1)", x.stand(30, 1), 0);
        read(x, "house;say 3 0 7;say 0 0 9;say 0 0 9;say 0 3 8;say 0 3 8;ear 1 0;ear 1 0;");
        due("stand(20, 0)", x.stand(20, 0), 4);
        due("stand(20, 1)", x.stand(20, 1), 3);
        read(x, "house;say 3 0 9;say 0 0 8;ear 1 3;ear 1 3;");
        due("stand(20, 0)", x.stand(20, 0), 1);
        due("stand(21, 0)", x.stand(21, 0), 2);
        due("stand(21, 1): both may be in one", x.stand(21, 1), 0);
        due("stand(31, 0)", x.stand(31, 0), -2);
        due("stand(1, 2)", x.stand(1, 2), -2);
        due("stand(1, -1)", x.stand(1, -1), -2);
        due("room(0, 0)", x.room(0, 0), -1);
        due("about(0, 1)", x.about(0, 1), 3);
        refused("stand", x, 4, 2, 0);
    }

    private static void told() {
        promise = 20;
        PaperHears x = new PaperHears();
        due("told(-1, 0, 0)", x.told(-1, 0, 0), -2);
        due("told(4, 0, 0)", x.told(4, 0, 0), -2);
        due("told(0, -1, 0)", x.told(0, -1, 0), -2);
        due("told(0, 30, 0)", x.told(0, 30, 0), -2);
        due("told(0, 0, -1)", x.told(0, 0, -1), -2);
        due("told(0, 0, 100)", x.told(0, 0, 100), -2);
        for (int k = 1; k <= 5; k++) {
            due("told(3, 29, 99)", x.told(3, 29, 99), k);
        }
        due("told(0, 0, 0)", x.told(0, 0, 0), -4);
        due("told(4, 0, 0)", x.told(4, 0, 0), -2);
        due("count(5)", x.count(5), 5);
        refused("told", x, 7, 0, 1);
    }

    private static void said() {
        promise = 21;
        PaperHears x = told("house;say 0 1 3;say 0 1 2;say 0 1 1;say 0 0 3;say 5 1 3;");
        due("said(1, 0)", x.said(1, 0), 16);
        due("said(1, 1)", x.said(1, 1), 0);
        due("said(1, 2)", x.said(1, 2), 0b10111);
        due("said(2, 0): the set of none", x.said(2, 0), 1);
        due("said(2, 1)", x.said(2, 1), 0);
        x.told(1, 5, 3);
        due("said(1, 0): 2 and 1, with or without the silent two", x.said(1, 0), 4);
        due("said(1, 1)", x.said(1, 1), 3);
        due("said(1, 2)", x.said(1, 2), 23);
        x.told(1, 0, 5);
        due("said(1, 0)", x.said(1, 0), 1);
        due("said(1, 1)", x.said(1, 1), 3);
        due("said(1, 2)", x.said(1, 2), 3);
        due("said(0, 0): of another room", x.said(0, 0), 2);
        due("said(0, 2)", x.said(0, 2), 8);
        x.told(1, 0, 4);
        due("said(1, 0)", x.said(1, 0), 0);
        due("said(1, 1)", x.said(1, 1), -1);
        due("said(1, 2)", x.said(1, 2), 0);
        x.told(2, 0, 1);
        due("said(2, 1): not even of none", x.said(2, 1), -1);
        due("said(4, 0)", x.said(4, 0), -2);
        due("said(-1, 0)", x.said(-1, 0), -2);
        due("said(0, 3)", x.said(0, 3), -2);
        due("said(0, -1)", x.said(0, -1), -2);
        refused("said", x, 4, 0, 0);
        x = told("house;say 0 3 5;say 0 3 5;say 0 3 9;");
        x.told(3, 0, 5);
        due("said(3, 0): the one or the other", x.said(3, 0), 2);
        due("said(3, 1)", x.said(3, 1), 0);
        due("said(3, 2)", x.said(3, 2), 3);
        x = told("house;say 0 0 1;say 0 0 1;say 0 0 1;say 0 0 1;say 0 0 1;say 0 0 1;say 0 0 1;say 0 0 1;");
        due("said(0, 0)", x.said(0, 0), 256);
        due("said(0, 2)", x.said(0, 2), 255);
        x.told(0, 3, 8);
        due("said(0, 1)", x.said(0, 1), 255);
    }

    private static void note() {
        promise = 22;
        PaperHears x = new PaperHears();
        due("note(0, 1, 0, 0), no saying", x.note(0, 1, 0, 0), -2);
        x.say(0, 0, 1);
        due("note(-1, 1, 0, 0)", x.note(-1, 1, 0, 0), -2);
        due("note(0, 0, 0, 0)", x.note(0, 0, 0, 0), -2);
        due("note(0, 10, 0, 0)", x.note(0, 10, 0, 0), -2);
        due("note(0, 1, -1, 0)", x.note(0, 1, -1, 0), -2);
        due("note(0, 1, 30, 0)", x.note(0, 1, 30, 0), -2);
        due("note(0, 1, 0, -1)", x.note(0, 1, 0, -1), -2);
        due("note(0, 1, 0, 21)", x.note(0, 1, 0, 21), -2);
        for (int k = 1; k <= 6; k++) {
            due("note(0, 9, 29, 20)", x.note(0, 9, 29, 20), k);
        }
        due("note(0, 1, 0, 0)", x.note(0, 1, 0, 0), -4);
        due("note(1, 1, 0, 0)", x.note(1, 1, 0, 0), -2);
        due("count(6)", x.count(6), 6);
        refused("note", x, 9, 0, 1);
    }

    private static void mark() {
        promise = 23;
        PaperHears x = new PaperHears();
        due("mark(0, 0, 0, 0), no listener", x.mark(0, 0, 0, 0), -2);
        x.ear(0);
        due("mark(-1, 0, 0, 0)", x.mark(-1, 0, 0, 0), -2);
        due("mark(0, -1, 0, 0)", x.mark(0, -1, 0, 0), -2);
        due("mark(0, 21, 0, 0)", x.mark(0, 21, 0, 0), -2);
        due("mark(0, 0, -1, 0)", x.mark(0, 0, -1, 0), -2);
        due("mark(0, 0, 100, 0)", x.mark(0, 0, 100, 0), -2);
        due("mark(0, 0, 0, -1)", x.mark(0, 0, 0, -1), -2);
        due("mark(0, 0, 0, 2)", x.mark(0, 0, 0, 2), -2);
        for (int k = 1; k <= 6; k++) {
            due("mark(0, 20, 99, 1)", x.mark(0, 20, 99, 1), k);
        }
        due("mark(0, 0, 0, 0)", x.mark(0, 0, 0, 0), -4);
        due("mark(1, 0, 0, 0)", x.mark(1, 0, 0, 0), -2);
        due("count(7)", x.count(7), 6);
        refused("mark", x, 9, 0, 1);
    }

    private static void forget() {
        promise = 24;
        PaperHears x = new PaperHears();
        x.say(0, 0, 1);
        x.ear(0);
        x.told(0, 0, 1);
        x.note(0, 1, 0, 1);
        x.note(0, 1, 0, 1);
        x.mark(0, 0, 0, 0);
        x.mark(0, 0, 0, 0);
        x.mark(0, 0, 0, 0);
        due("forget(-1)", x.forget(-1), -2);
        due("forget(3)", x.forget(3), -2);
        due("forget(1)", x.forget(1), 2);
        due("count(5)", x.count(5), 1);
        due("count(6)", x.count(6), 0);
        due("count(7)", x.count(7), 3);
        due("forget(0)", x.forget(0), 1);
        due("forget(2)", x.forget(2), 3);
        due("forget(0)", x.forget(0), 0);
        due("forget(1)", x.forget(1), 0);
        due("forget(2)", x.forget(2), 0);
        refused("forget", x, 2, 0, 0);
    }

    private static void is() {
        promise = 25;
        PaperHears x = told("house;say 0 0 9;say 0 0 1;");
        due("is(0)", x.is(0), 63);
        x.note(0, 9, 20, 4);
        due("is(0)", x.is(0), 0b110101);
        due("is(1), of another", x.is(1), 63);
        x.note(0, 4, 1, 8);
        due("is(0)", x.is(0), 0b000100);
        x.note(1, 8, 19, 2);
        due("is(1)", x.is(1), 0b001010);
        x.note(1, 8, 20, 2);
        due("is(1)", x.is(1), 0b000010);
        x.note(1, 8, 20, 3);
        due("is(1)", x.is(1), 0);
        due("is(2)", x.is(2), -2);
        due("is(-1)", x.is(-1), -2);
        refused("is", x, 2, 0, 0);
    }

    private static void look() {
        promise = 26;
        PaperHears x = told("house;say 0 0 9;say 0 0 1;say 0 0 7;");
        due("look(0)", x.look(0), 0);
        due("look(1): 1 1 5 1 0 0 at 1", x.look(1), 1);
        x.note(0, 9, 20, 4);
        due("look(0): plain, shout, have you seen, door at 0: 9 13 9 13", x.look(0), 0);
        x.note(0, 9, 1, 13);
        due("look(0): one kind", x.look(0), 0);
        x.note(2, 9, 3, 5);
        due("look(2): whisper or goodbye, as they are at 20", x.look(2), 20);
        x.note(2, 9, 3, 6);
        due("look(2): no kind", x.look(2), -1);
        due("look(3)", x.look(3), -2);
        due("look(-1)", x.look(-1), -2);
        refused("look", x, 2, 0, 0);
    }

    private static void kinds() {
        promise = 27;
        PaperHears x = told("house;ear 0 0;ear 0 0;");
        due("kinds(0)", x.kinds(0), 63);
        x.mark(0, 3, 12, 1);
        due("kinds(0)", x.kinds(0), 0b110100);
        due("kinds(1), of another", x.kinds(1), 63);
        x.mark(0, 3, 20, 0);
        due("kinds(0)", x.kinds(0), 0b010100);
        x.mark(1, 5, 13, 0);
        due("kinds(1)", x.kinds(1), 0b000010);
        x.mark(1, 0, 0, 1);
        due("kinds(1)", x.kinds(1), 0);
        due("kinds(2)", x.kinds(2), -2);
        due("kinds(-1)", x.kinds(-1), -2);
        refused("kinds", x, 2, 0, 0);
    }

    private static void ask() {
        promise = 28;
        PaperHears x = told("house;ear 0 0;ear 0 0;ear 0 0;");
        due("ask(0): half at 1 beside 4", x.ask(0), 104);
        x.mark(0, 3, 0, 0);
        due("ask(0): cotton or wool, apart at 4 beside 13 no more, at 5", x.ask(0), 513);
        x.mark(1, 3, 12, 1);
        due("ask(1): young, elder, sharp", x.ask(1), 112);
        x.mark(1, 1, 23, 1);
        due("ask(1): sharp alone", x.ask(1), 0);
        x.mark(1, 0, 60, 1);
        due("ask(1): no kind", x.ask(1), -1);
        x.mark(2, 1, 4, 0);
        x.mark(2, 1, 0, 1);
        due("ask(2): plain alone", x.ask(2), 0);
        due("ask(3)", x.ask(3), -2);
        due("ask(-1)", x.ask(-1), -2);
        refused("ask", x, 2, 0, 0);
    }

    private static void brothers() {
        promise = 29;
        PaperHears x = new PaperHears();
        due("brothers(-2)", x.brothers(-2), -10);
        due("brothers(-1)", x.brothers(-1), -3);
        x.ear(0);
        due("brothers(0)", x.brothers(0), -3);
        due("brothers(MIN)", x.brothers(Integer.MIN_VALUE), -10);
        x.ear(0);
        due("brothers(-1): nowhere anything, but apart", x.brothers(-1), 12);
        due("brothers(0)", x.brothers(0), 1);
        due("brothers(11)", x.brothers(11), 32);
        due("brothers(12)", x.brothers(12), -5);
        due("brothers(MAX)", x.brothers(Integer.MAX_VALUE), -5);
        refused("brothers", x, 2, 2, 0);
        read(x, "house;say 0 2 5;say 0 2 5;say 0 2 5;ear 0 0;ear 0 0;strip 2;");
        due("brothers(-1): both to where 3 are heard", x.brothers(-1), 1);
        due("brothers(0)", x.brothers(0), 22);
        due("brothers(1)", x.brothers(1), -5);
        read(x, "house;say 0 0 5;say 0 0 5;say 0 0 5;ear 0 1;ear 0 2;strip 0;");
        due("brothers(-1): both to the first room", x.brothers(-1), 1);
        due("brothers(0)", x.brothers(0), 0);
        read(x, "house;say 0 2 5;ear 0 0;ear 1 0;strip 2;");
        due("brothers(-1): one is as good as none elsewhere", x.brothers(-1), 7);
        due("brothers(0)", x.brothers(0), 2);
        due("brothers(2)", x.brothers(2), 20);
        due("brothers(5)", x.brothers(5), 23);
        due("brothers(6)", x.brothers(6), 32);
        read(x, "house;say 0 1 3;say 0 3 9;ear 0 0;ear 1 0;ear 0 0;strip 1;strip 3;");
        due("brothers(-1)", x.brothers(-1), 4);
        due("brothers(0): the other hears but the louder", x.brothers(0), 13);
        due("brothers(1)", x.brothers(1), 30);
        due("brothers(3)", x.brothers(3), 32);
        x.minutes(30);
        due("brothers(-1), all silent", x.brothers(-1), 12);
    }

    private static void holds() {
        promise = 30;
        PaperHears x = told("house;say 0 0 1;say 0 0 4;say 0 1 5;say 2 0 9;ear 0 0;ear 1 1;strip 0;");
        holds(x, 0, 0, 0, 0, 1);
        holds(x, 0, 0, 1, 9, 1000);
        holds(x, 0, 0, 5, 1, 8);
        holds(x, 0, 0, 9, 81, 1000);
        holds(x, 0, 0, 10, 0, 1);
        holds(x, 0, 3, 0, 1, 1);
        holds(x, 0, 3, 3, 7, 10);
        holds(x, 0, 1, 2, 4, 5);
        holds(x, 0, 2, 0, 0, 1);
        holds(x, 1, 2, 0, 0, 1);
        x.strips(1);
        holds(x, 1, 2, 4, 3, 5);
        holds(x, 1, 0, 4, 0, 1);
        x.minutes(30);
        holds(x, 0, 3, 3, 0, 1);
        due("holds(2, 0, 0)", x.holds(2, 0, 0), -2);
        due("holds(-1, 0, 0)", x.holds(-1, 0, 0), -2);
        due("holds(0, 4, 0)", x.holds(0, 4, 0), -2);
        due("holds(0, -1, 0)", x.holds(0, -1, 0), -2);
        due("holds(0, 0, 11)", x.holds(0, 0, 11), -2);
        due("holds(0, 0, -1)", x.holds(0, 0, -1), -2);
        refused("holds", x, 6, 0, 0);
        x = told("house;say 0 0 3;say 0 0 9;say 0 0 9;say 0 0 9;say 0 0 9;say 0 0 9;say 0 0 9;say 0 0 9;ear 0 0;strip 0;");
        // 3 are heard beside 11 at most, so beside one other of 9: 9 by 10 times 1 and 63 by 10000000
        holds(x, 0, 0, 1, 576, 100000000);
    }

    private static void holds(PaperHears x, int i, int s, int c, long above, long below) {
        String call = "holds(" + i + ", " + s + ", " + c + ")";
        due(call, x.holds(i, s, c), 1);
        long divisor = 1;
        for (long d = 2; d <= above; d++) {
            if (above % d == 0 && below % d == 0) {
                divisor = d;
            }
        }
        due(call + ", part(0)", x.part(0), above / divisor);
        due(call + ", part(1)", x.part(1), below / divisor);
    }

    private static void jobs() {
        promise = 31;
        PaperHears x = new PaperHears();
        due("jobs(0, 60), nobody", x.jobs(0, 60), 0);
        due("jobs(-1, 0)", x.jobs(-1, 0), -2);
        due("jobs(1000000, 0)", x.jobs(1000000, 0), -2);
        due("jobs(0, -1)", x.jobs(0, -1), -2);
        due("jobs(0, 61)", x.jobs(0, 61), -2);
        refused("jobs", x, 4, 0, 0);
        read(x, "house;say 0 0 9;say 0 1 9;say 0 2 9;say 0 3 9;ear 0 0;ear 0 0;ear 0 0;");
        for (int seed = 0; seed < 12; seed++) {
            for (int n = 1; n <= 9; n += 4) {
                due("jobs(" + seed + ", " + n + ")", x.jobs(seed, n), roomsHeard(seed, n, 3));
            }
        }
        due("jobs(999999, 1)", x.jobs(999999, 1), 1);
        due("jobs(999999, 60)", x.jobs(999999, 60), roomsHeard(999999, 60, 3));
        due("count(2)", x.count(2), 0);
        due("count(3)", x.count(3), 0);
        due("count(4)", x.count(4), 0);
        due("count(8)", x.count(8), 0);
        x.strips(0);
        x.minutes(1);
        due("jobs(7, 0): what is known now", x.jobs(7, 0), 1);
        read(x, "house;say 4 0 9;say 0 0 1;say 4 1 9;say 0 1 1;say 4 2 9;say 0 2 1;say 4 3 9;say 0 3 1;ear 0 0;ear 0 0;ear 0 0;");
        for (int seed = 0; seed < 5; seed++) {
            due("jobs(" + seed + ", 1): the low one only a minute on", x.jobs(seed, 1), 1);
        }
        read(x, "house;say 0 0 9;say 0 1 9;say 0 2 9;say 0 3 9;ear 0 0;");
        for (int seed = 20; seed < 30; seed++) {
            due("jobs(" + seed + ", 3), one listener", x.jobs(seed, 3), roomsHeard(seed, 3, 1));
        }
    }

    /** With one loud saying in each room one that is gone to is heard from. */
    private static int roomsHeard(int seed, int n, int listeners) {
        long x = seed;
        boolean[] heard = new boolean[4];
        for (int k = 0; k < n; k++) {
            x = (x * 1103515245L + 12345L) % 2147483648L;
            if (x / 65536 % 3 < listeners) {
                heard[(int) (x / 1048576 % 4)] = true;
            }
        }
        int many = 0;
        for (boolean one : heard) {
            many += one ? 1 : 0;
        }
        return many;
    }

    private static void part() {
        promise = 32;
        PaperHears x = told("house;say 0 0 9;ear 0 0;strip 0;");
        due("part(0)", x.part(0), 0);
        due("part(1)", x.part(1), 1);
        x.holds(0, 0, 4);
        due("part(0)", x.part(0), 3);
        due("part(1)", x.part(1), 5);
        x.holds(0, 0, 11);
        due("part(0) behind a refused one", x.part(0), 3);
        due("part(2)", x.part(2), -2);
        due("part(-1)", x.part(-1), -2);
        refused("part", x, 3, 0, 0);
    }

    private static void image() {
        promise = 33;
        PaperHears x = told("house;say 0 0 9;ear 0 0;strip 0;");
        due("image(-1)", x.image(-1), -2);
        due("image(2)", x.image(2), -2);
        due("image(0)", x.image(0), 1);
        x.minutes(3);
        due("image(1)", x.image(1), 1);
        x.from(0);
        due("count(2)", x.count(2), 0);
        x.from(1);
        due("count(2)", x.count(2), 3);
        due("count(4)", x.count(4), 1);
        due("image(0) anew", x.image(0), 1);
        x.house();
        x.from(0);
        due("count(2)", x.count(2), 3);
        refused("image", x, 2, 0, 0);
    }

    private static void from() {
        promise = 34;
        PaperHears x = told("house;say 0 0 9;ear 0 0;");
        due("from(2)", x.from(2), -2);
        due("from(-1)", x.from(-1), -2);
        due("from(0)", x.from(0), -3);
        x.strips(0);
        x.minutes(2);
        x.goes(0, 3);
        x.told(0, 1, 2);
        x.note(0, 1, 2, 3);
        x.mark(0, 1, 2, 0);
        x.holds(0, 0, 5);
        x.image(1);
        long kept = x.digest();
        x.say(1, 1, 1);
        x.ear(1);
        x.minutes(5);
        x.papers(0);
        x.forget(0);
        x.forget(1);
        x.forget(2);
        x.goes(0, 0);
        x.strips(0);
        x.holds(0, 0, 5);
        x.type(32);
        due("from(1)", x.from(1), 1);
        due("part(1): the fraction is not kept", x.part(1), 2);
        due("count(9): the text is not kept", x.count(9), 25);
        x.holds(0, 0, 5);
        read(x, "house;say 0 0 9;ear 0 0;");
        due("from(1) again", x.from(1), 1);
        x.holds(0, 0, 5);
        due("digest()", x.digest(), kept);
        due("undo() of going", x.undo(), 2);
        due("undo() of minutes", x.undo(), 0);
        due("undo() of stripping", x.undo(), 0);
        due("undo()", x.undo(), -3);
        due("from(0)", x.from(0), -3);
        refused("from", x, 2, 3, 0);
    }

    private static void status() {
        promise = 35;
        PaperHears x = new PaperHears();
        due("status(3)", x.status(3), -1);
        due("status(-1)", x.status(-1), -1);
        refused("two bad ones", x, 2, 0, 0);
        x.papers(0);
        x.undo();
        x.from(0);
        x.brothers(-1);
        x.stand(1, 0);
        x.ear(0);
        x.goes(0, 0);
        refused("six that are not", x, 2, 6, 0);
        x.brothers(-2);
        x.part(2);
        x.count(10);
        x.strips(4);
        refused("bad ones", x, 6, 6, 0);
        for (int k = 0; k < 4; k++) {
            x.ear(0);
        }
        refused("two full ones", x, 6, 6, 2);
        x.brothers(20);
        x.read();
        x.first(0, 0);
        x.say(0, 0, 1);
        x.first(0, 0);
        x.stay(0, 1, 0, 0);
        refused("other answers below 0", x, 7, 6, 2);
        x.image(0);
        x.from(0);
        x.house();
        refused("from() and house()", x, 7, 6, 2);
    }

    private static void count() {
        promise = 36;
        PaperHears x = told("house;say 0 0 9;say 0 1 9;say 0 0 9;ear 0 0;ear 0 1;strip 0;minutes 4;strip 3;");
        x.told(0, 0, 0);
        x.note(0, 1, 0, 0);
        x.note(0, 1, 0, 0);
        x.mark(0, 1, 0, 0);
        x.mark(0, 1, 0, 0);
        x.mark(0, 1, 0, 0);
        x.goes(0, 3);
        x.goes(0, 2);
        x.strips(1);
        x.minutes(1);
        int[] want = {3, 2, 5, 3, 3, 1, 2, 3, 4, 78};
        for (int what = 0; what < 10; what++) {
            due("count(" + what + ")", x.count(what), want[what]);
        }
        due("count(10)", x.count(10), -2);
        due("count(-1)", x.count(-1), -2);
        x.minutes(99);
        due("count(3): silent ones too", x.count(3), 3);
        refused("count", x, 2, 0, 0);
    }

    private static void digest() {
        promise = 37;
        PaperHears x = new PaperHears();
        due("digest()", x.digest(), hash(0, 0, 0, 0, 0, 0, 0, 0, 0, 0, -1, -1, -1, -1, 0, 1));
        read(x, "house;say 5 3 9;say 1 2 3;ear 4 2;ear 1 3;strip 3;minutes 2;");
        x.told(3, 29, 99);
        x.told(1, 2, 3);
        x.note(1, 9, 8, 7);
        x.note(0, 1, 2, 3);
        x.mark(1, 20, 99, 1);
        x.mark(0, 5, 6, 0);
        x.strips(1);
        x.holds(1, 0, 5);
        due("digest()", x.digest(), hash(2, 2, 2, 2, 1, 2, 2, 2, 1, 60, -1, 0, -1, 2,
            5, 3, 9, 1, 2, 3, 4, 2, 0, 1, 3, 1, 3, 29, 99, 1, 2, 3,
            1, 9, 8, 7, 0, 1, 2, 3, 1, 20, 99, 1, 0, 5, 6, 0, 1, 2));
        long before = x.digest();
        x.count(99);
        x.status(0);
        x.image(0);
        x.jobs(1, 60);
        x.stand(5, 0);
        x.stay(0, 1, 0, -1);
        x.first(0, 0);
        x.brothers(-1);
        due("digest() behind what changes nothing told", x.digest(), before);
    }
}
