/** Each bound on kinds, images and counts (the document's part 4, promises 6, 7 and 23 to 27): inside, at it, outside. */
public final class KindEdgesTest extends TownTest {
    public static void main(String[] args) {
        numbersOfKinds();
        whatEachKindMarks();
        howOftenABodyIsAsked();
        refusedMarks();
        marksBelowNought();
        theTraceGoesOn();
        numbersOfImages();
        imagesThatWereNotKept();
        anImageKeepsNow();
        anImageKeepsWhatMayBeUndone();
        anImageKeepsNothingElse();
        imagesAreApart();
        readAnewImagesAreGone();
        whatIsAskedOfAWagon();
        whatIsAskedOfNow();
        whatIsAskedOfAPlace();
        whatIsCounted();
        end();
    }

    // KINDS 0 .. 5. NO: BAD
    private static void numbersOfKinds() {
        WheelTown x = town("w 7 0 0 0;w 9 0 0 0;");
        dueOfAll("mark", NO, () -> x.mark(-1, 0), () -> x.mark(6, 0), () -> x.mark(Integer.MIN_VALUE, 0),
            () -> x.mark(Integer.MAX_VALUE, 0), () -> x.mark(0, -1), () -> x.mark(0, 2), () -> x.mark(0, Integer.MIN_VALUE),
            () -> x.mark(0, Integer.MAX_VALUE), () -> new WheelTown().mark(0, 0));
        due("the first kind, the first wagon", 7, x.mark(0, 0));
        due("the first kind, the last wagon", 9, x.mark(0, 1));
        due("the last kind, the last wagon", 23, x.mark(5, 1));
    }

    // WAGON its WAY; FORGE up, and DONE; CHAPEL up less the PACE by which it goes; TENDER up times 2; HOUSE up, and its RAIL
    private static void whatEachKindMarks() {
        WheelTown x = town("s 3 5;w 7 1 9 2;w 3 3 0 0;h 0 1;");
        x.stand(0, 4);
        pass(x, 6);
        due("its WAY", 7, x.wagon(0, 0));
        due("DONE", 4, x.wagon(0, 6));
        due("PACE", 3, x.wagon(0, 1));
        due("THE SUN's WAY", -3, x.sun(6));
        int[] marks = {7, 11, 4, 22, 6, 17};
        for (int kind = 0; kind < marks.length; kind++) {
            due("kind " + kind, marks[kind], x.mark(kind, 0));
        }
    }

    // (numbers in brackets come to THE TRACE as often as mark() asks that body)
    private static void howOftenABodyIsAsked() {
        long[] asked = {1, 11, 101, 1011, 10101, 100001};
        for (int kind = 0; kind < asked.length; kind++) {
            WheelTown x = town("w 7 0 0 0;");
            due("at first", 0, x.trace());
            x.mark(kind, 0);
            due("kind " + kind, asked[kind], x.trace());
            x.mark(kind, 0);
            due("kind " + kind + ", twice", 2 * asked[kind], x.trace());
        }
    }

    // Refused, and nothing changes
    private static void refusedMarks() {
        WheelTown x = town("w 7 0 0 0;");
        x.mark(0, 0);
        x.mark(6, 0);
        x.mark(-1, 0);
        for (int kind = 0; kind < 6; kind++) {
            x.mark(kind, 1);
            x.mark(kind, -1);
        }
        due("trace()", 1, x.trace());
    }

    // NO: what none is, where a number may be below 0
    private static void marksBelowNought() {
        WheelTown x = town("s 1 20;w 0 3 0 0;");
        due("CHAPEL", -3, x.mark(2, 0));
        due("HOUSE", -3, x.mark(4, 0));
        due("RAILCART", 20, x.mark(5, 0));
        stand(x, 0, 90);
        pass(x, 21);
        due("RAILCART of one that is caught", -1, x.mark(5, 0));
        pass(x, 30);
        due("how far it is behind", -31, x.mark(5, 0));
    }

    // THE TRACE: no town, no image, no undoing has it
    private static void theTraceGoesOn() {
        WheelTown x = town("w 7 0 0 0;");
        x.keep(0);
        x.minute();
        x.mark(1, 0);
        due("trace()", 11, x.trace());
        x.undo();
        due("behind undo", 11, x.trace());
        x.back(0);
        due("behind back", 11, x.trace());
        x.clear();
        due("behind clear", 11, x.trace());
        world(x, "w 7 0 0 0;");
        due("behind world", 11, x.trace());
        due("trace() is not changed by asking", 11, x.trace());
    }

    // IMAGES 0, 1. BAD
    private static void numbersOfImages() {
        WheelTown x = new WheelTown();
        dueOfAll("keep", BAD, () -> x.keep(-1), () -> x.keep(2), () -> x.keep(Integer.MIN_VALUE),
            () -> x.keep(Integer.MAX_VALUE));
        dueOfAll("back: BAD ahead of STATE", BAD, () -> x.back(-1), () -> x.back(2), () -> x.back(Integer.MIN_VALUE),
            () -> x.back(Integer.MAX_VALUE));
        due("keep(0)", 0, x.keep(0));
        due("keep(1)", 0, x.keep(1));
        due("back(0)", 0, x.back(0));
        due("back(1)", 0, x.back(1));
    }

    // back: STATE: none was kept
    private static void imagesThatWereNotKept() {
        WheelTown x = town("w 0 0 0 0;");
        x.minute();
        due("none", STATE, x.back(0));
        due("none", STATE, x.back(1));
        x.keep(1);
        due("the other", STATE, x.back(0));
        due("that", 1, x.back(1));
        x.keep(2);
        x.keep(-1);
        due("a refused one keeps none", STATE, x.back(0));
        due("MINUTE", 1, x.now(0));
        due("may be UNDONE", 1, x.count(3));
    }

    // keep NOW (the MINUTE, all of WAGONS that goes on ..)
    private static void anImageKeepsNow() {
        WheelTown x = town("s 1 3;p 0;w 0 3 5 0;w 8 1 5 1;");
        x.stand(1, 3);
        x.change(1, 2);
        pass(x, 2);
        String kept = sight(x);
        due("keep", 2, x.keep(0));
        x.stand(1, 2);
        pass(x, 9);
        due("0 is caught", 1, x.now(4));
        due("back", 2, x.back(0));
        dueAlike("back", kept, sight(x));
        due("none is caught", 0, x.now(4));
        pass(x, 3);
        due("again", 2, x.back(0));
        dueAlike("again", kept, sight(x));
    }

    private static String sight(WheelTown x) {
        StringBuilder sight = new StringBuilder();
        for (int w = 0; w < x.count(0); w++) {
            for (int what = 0; what < 8; what++) {
                sight.append(x.wagon(w, what)).append(' ');
            }
        }
        for (int what = 0; what < 6; what++) {
            sight.append(x.now(what)).append(' ');
        }
        return sight.append(x.count(3)).toString();
    }

    // .. what may be UNDONE
    private static void anImageKeepsWhatMayBeUndone() {
        for (int minutes : new int[] {0, 1, 9, 10, 11}) {
            WheelTown x = town("s 9 20;w 0 0 0 0;");
            pass(x, minutes);
            x.keep(1);
            pass(x, 12);
            due("back", minutes, x.back(1));
            due("known of " + minutes, Math.min(10, minutes), x.count(3));
            for (int i = Math.min(10, minutes) - 1; i >= 0; i--) {
                due("undo", i, x.undo());
                due("MINUTE", Math.max(0, minutes - 10) + i, x.now(0));
                due("WAY", Math.max(0, minutes - 10) + i, x.wagon(0, 0));
            }
            due("none more of " + minutes, STATE, x.undo());
            due("the image has them still", minutes, x.back(1));
            due("known of " + minutes, Math.min(10, minutes), x.count(3));
        }
    }

    // nothing else
    private static void anImageKeepsNothingElse() {
        WheelTown x = town("w 0 0 0 0;");
        type(x, "p 1;");
        x.keep(0);
        type(x, "p 2");
        x.mark(0, 0);
        x.back(0);
        due("bytes of THE TEXT", 7, x.count(4));
        due("THE TRACE", 1, x.trace());
        x.keep(1);
        x.clear();
        x.back(1);
        due("bytes of THE TEXT", 0, x.count(4));
        // An image keeps no image.
        x.minute();
        x.keep(0);
        due("back to the one", 0, x.back(1));
        due("the other is as it was kept last", 1, x.back(0));
    }

    // IMAGES 0, 1 are apart, and kept anew
    private static void imagesAreApart() {
        WheelTown x = town("w 0 0 0 0;");
        x.keep(0);
        pass(x, 3);
        x.keep(1);
        pass(x, 3);
        due("0", 0, x.back(0));
        due("WAY", 0, x.wagon(0, 0));
        due("1", 3, x.back(1));
        due("WAY", 3, x.wagon(0, 0));
        x.minute();
        due("0 anew", 4, x.keep(0));
        due("1 is as it was", 3, x.back(1));
        due("0 is as it is kept", 4, x.back(0));
        due("WAY", 4, x.wagon(0, 0));
    }

    // (Read anew: as told, MINUTE 0, nothing to be UNDONE, IMAGES are gone.)
    private static void readAnewImagesAreGone() {
        WheelTown x = town("w 0 0 5 0;");
        x.stand(0, 3);
        pass(x, 4);
        x.keep(0);
        x.keep(1);
        due("a fault", -11, world(x, "w"));
        due("a fault leaves them", 4, x.back(0));
        due("a fault leaves them", 4, x.back(1));
        due("a fault leaves what may be UNDONE", 5, x.count(3));
        x.clear();
        due("read anew", 1, world(x, "w 0 0 5 0;"));
        due("as told", 0, x.wagon(0, 0) + x.wagon(0, 5) + x.wagon(0, 6));
        due("MINUTE 0", 0, x.now(0));
        due("nothing to be UNDONE", STATE, x.undo());
        due("gone", STATE, x.back(0));
        due("gone", STATE, x.back(1));
        x.minute();
        due("kept anew", 1, x.keep(1));
        due("kept anew", 1, x.back(1));
        due("the other is gone still", STATE, x.back(0));
    }

    // wagon: 0 .. 7. BAD
    private static void whatIsAskedOfAWagon() {
        WheelTown x = town("s 1 1;w 20 3 9 2;w 0 3 1 0;");
        x.stand(0, 2);
        x.minute();
        int[][] all = {{20, 3, 9, 2, 4, 1, 1, 0}, {0, 3, 1, 0, 3, 0, 0, 1}};
        for (int w = 0; w < 2; w++) {
            for (int what = 0; what < 8; what++) {
                due("wagon(" + w + ", " + what + ")", all[w][what], x.wagon(w, what));
            }
        }
        dueOfAll("wagon", BAD, () -> x.wagon(0, -1), () -> x.wagon(0, 8), () -> x.wagon(0, Integer.MIN_VALUE),
            () -> x.wagon(0, Integer.MAX_VALUE), () -> x.wagon(-1, 0), () -> x.wagon(2, 0),
            () -> x.wagon(Integer.MIN_VALUE, 0), () -> x.wagon(Integer.MAX_VALUE, 0), () -> new WheelTown().wagon(0, 0));
    }

    // now: 0 .. 5. BAD
    private static void whatIsAskedOfNow() {
        WheelTown x = townAfter(1, "r 12;s 1 1;w 20 3 9 2;w 0 3 0 0;");
        int[] all = {1, 12, 1, 1, 2, 2};
        for (int what = 0; what < all.length; what++) {
            due("now(" + what + ")", all[what], x.now(what));
        }
        dueOfAll("now", BAD, () -> x.now(-1), () -> x.now(6), () -> x.now(Integer.MIN_VALUE), () -> x.now(Integer.MAX_VALUE));
    }

    // place: 0 .. 2. BAD
    private static void whatIsAskedOfAPlace() {
        WheelTown x = town("r 4;c 3 4;p 3;b 3;");
        int[] all = {4, 1, 1};
        for (int what = 0; what < all.length; what++) {
            due("place(3, " + what + ")", all[what], x.place(3, what));
            due("place(0, " + what + ")", what == 0 ? 1 : 0, x.place(0, what));
        }
        dueOfAll("place", BAD, () -> x.place(0, -1), () -> x.place(0, 3), () -> x.place(0, Integer.MIN_VALUE),
            () -> x.place(0, Integer.MAX_VALUE), () -> x.place(-1, 0), () -> x.place(4, 0),
            () -> x.place(Integer.MIN_VALUE, 0), () -> x.place(Integer.MAX_VALUE, 0));
    }

    // count: 0 .. 4. BAD
    private static void whatIsCounted() {
        WheelTown x = town("p 1;p 2;p 3;w0 0 0 0;w1 0 0 0;w2 0 0 0;w3 0 0 0;w4 0 0 0;h 0 1;");
        x.minute();
        x.minute();
        type(x, "abcd");
        int[] all = {5, 1, 3, 2, 4};
        for (int what = 0; what < all.length; what++) {
            due("count(" + what + ")", all[what], x.count(what));
            due("of a new object: count(" + what + ")", 0, new WheelTown().count(what));
        }
        dueOfAll("count", BAD, () -> x.count(-1), () -> x.count(5), () -> x.count(Integer.MIN_VALUE),
            () -> x.count(Integer.MAX_VALUE));
    }
}
