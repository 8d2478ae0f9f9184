import java.util.function.Supplier;
import java.util.function.ToLongFunction;

/** Each call that is refused: it answers as told, and all is then as in a twin of that town that was not asked. */
public final class RefusedTest extends TownTest {
    private static final String TEXT = "r 5;s 1 2;b 3;p 0;c 2 4;w 10 0 3 0;w 0 3 2 1;w 11 0 9 1;w 10 1 0 2;h 0 2;";
    private static final int MIN = Integer.MIN_VALUE;
    private static final int MAX = Integer.MAX_VALUE;

    public static void main(String[] args) {
        theBusyTown();
        texts();
        questionsOfTheWorld();
        orders();
        questionsOfWhatComes();
        questionsOfChance();
        kindsAndImages();
        aNewTown();
        end();
    }

    /** Wagon 0 is at points with 99 to stand, 1 is caught, 2 is off points, 3 is beside 0; image 0 is kept, 1 is not. */
    private static WheelTown busy() {
        WheelTown x = town(TEXT);
        x.stand(0, 5);
        x.stand(3, 5);
        pass(x, 2);
        x.keep(0);
        stand(x, 0, 96);
        x.mark(5, 2);
        type(x, "w 20 0");
        return x;
    }

    /** If it were not as told above, calls would be refused for another reason than the one that is meant. */
    private static void theBusyTown() {
        WheelTown x = busy();
        due("0 has 99 to STAND", 99, x.wagon(0, 5));
        due("0 is at points", 1, x.place(x.wagon(0, 0) % 5, 1));
        due("1 is CAUGHT", 2, x.now(4));
        due("1 is at points", 1, x.place(x.wagon(1, 0) % 5, 1));
        due("2 is off points", 0, x.place(x.wagon(2, 0) % 5, 1));
        due("3 is beside 0", x.wagon(0, 0), x.wagon(3, 0));
        due("may be UNDONE", 8, x.count(3));
        due("image 0", 2, x.back(0));
        due("image 1", STATE, x.back(1));
    }

    private static WheelTown full() {
        WheelTown x = town("w 3 1 2 0;");
        x.minute();
        for (int i = 0; i < 100; i++) {
            type(x, "p ");
        }
        return x;
    }

    @SafeVarargs
    private static void refused(String what, long answer, ToLongFunction<WheelTown>... calls) {
        refusedIn(what, RefusedTest::busy, answer, calls);
    }

    @SafeVarargs
    private static void refusedIn(String what, Supplier<WheelTown> town, long answer, ToLongFunction<WheelTown>... calls) {
        String untouched = whole(town.get());
        for (int i = 0; i < calls.length; i++) {
            WheelTown x = town.get();
            due(what + " (" + i + ")", answer, calls[i].applyAsLong(x));
            dueAlike(what + " (" + i + ")", untouched, whole(x));
        }
    }

    /** All that can be asked: the town, what comes, what may be undone, images, and at last the text, which is ended. */
    private static String whole(WheelTown x) {
        StringBuilder all = new StringBuilder();
        for (int what = 0; what < 6; what++) {
            all.append(x.now(what)).append(' ').append(x.count(what)).append(' ');
            for (int p = 0; p < 8 && what < 3; p++) {
                all.append(x.place(p, what)).append(' ');
            }
        }
        for (int w = 0; w < 4; w++) {
            all.append(x.wagon(w, 1)).append(' ').append(x.wagon(w, 2)).append(' ').append(x.stands(w)).append(' ');
        }
        all.append(x.trace()).append(' ').append(x.caught(0)).append(' ').append(x.waits(0)).append(' ').append(x.starts(-1));
        history(x, all);
        for (int image = 0; image < 2; image++) {
            all.append(" image ").append(x.back(image));
            history(x, all);
        }
        type(x, " 0 1;");
        all.append(" world ").append(x.world()).append(' ').append(x.clear()).append(' ').append(x.wagon(0, 0));
        return all.toString();
    }

    private static void history(WheelTown x, StringBuilder all) {
        for (int i = 0; i < 12; i++) {
            all.append(" | ").append(x.now(0)).append(' ').append(x.now(4)).append(' ');
            for (int w = 0; w < 4; w++) {
                for (int what : new int[] {0, 3, 4, 5, 6}) {
                    all.append(x.wagon(w, what)).append(' ');
                }
            }
            if (x.undo() == STATE) {
                return;
            }
        }
    }

    private static void texts() {
        refused("type", BAD, x -> x.type(-1), x -> x.type(256), x -> x.type(MIN), x -> x.type(MAX));
        refusedIn("type, full", RefusedTest::full, FULL, x -> x.type(0), x -> x.type(59), x -> x.type(255));
        refusedIn("type, full: BAD first", RefusedTest::full, BAD, x -> x.type(-1), x -> x.type(256));
        // The text is "w 20 0": it ends too early.
        refused("world", -16, x -> x.world());
        refusedIn("world, full", RefusedTest::full, -12, x -> x.world());
    }

    private static void questionsOfTheWorld() {
        refused("place", BAD, x -> x.place(-1, 0), x -> x.place(5, 0), x -> x.place(0, -1), x -> x.place(0, 3),
            x -> x.place(MIN, MIN), x -> x.place(MAX, MAX));
        refused("wagon", BAD, x -> x.wagon(-1, 0), x -> x.wagon(4, 0), x -> x.wagon(0, -1), x -> x.wagon(0, 8),
            x -> x.wagon(MIN, MIN), x -> x.wagon(MAX, MAX));
        refused("now", BAD, x -> x.now(-1), x -> x.now(6), x -> x.now(MIN), x -> x.now(MAX));
        refused("sun", NO, x -> x.sun(-1), x -> x.sun(1101), x -> x.sun(MIN), x -> x.sun(MAX));
        refused("count", BAD, x -> x.count(-1), x -> x.count(5), x -> x.count(MIN), x -> x.count(MAX));
    }

    private static void orders() {
        refused("stand", BAD, x -> x.stand(-1, 1), x -> x.stand(4, 1), x -> x.stand(2, 0), x -> x.stand(2, 31),
            x -> x.stand(2, -1), x -> x.stand(MIN, MIN), x -> x.stand(MAX, MAX), x -> x.stand(2, MIN), x -> x.stand(2, MAX));
        refused("stand: BAD ahead of STATE", BAD, x -> x.stand(1, 0), x -> x.stand(1, 31), x -> x.stand(0, 0),
            x -> x.stand(0, 31));
        refused("stand: it is CAUGHT", STATE, x -> x.stand(1, 1), x -> x.stand(1, 30));
        refused("stand: more than 99", STATE, x -> x.stand(0, 1), x -> x.stand(0, 30));
        refused("change", BAD, x -> x.change(-1, 1), x -> x.change(4, 1), x -> x.change(0, -1), x -> x.change(0, 3),
            x -> x.change(MIN, MIN), x -> x.change(MAX, MAX), x -> x.change(0, MIN), x -> x.change(0, MAX));
        refused("change: BAD ahead of STATE", BAD, x -> x.change(1, 3), x -> x.change(2, 3), x -> x.change(1, -1));
        refused("change: it is CAUGHT", STATE, x -> x.change(1, 0), x -> x.change(1, 2));
        refused("change: on that RAIL", STATE, x -> x.change(0, 0), x -> x.change(3, 2));
        refused("change: not at POINTS", STATE, x -> x.change(2, 0), x -> x.change(2, 2));
        refused("change: a WAGON is there", STATE, x -> x.change(0, 2), x -> x.change(3, 0));
    }

    private static void questionsOfWhatComes() {
        refused("behind", BAD, x -> x.behind(-1, 0, 0), x -> x.behind(61, 0, 0), x -> x.behind(0, -1, 0),
            x -> x.behind(0, 4, 0), x -> x.behind(0, 0, -1), x -> x.behind(0, 0, 2), x -> x.behind(MIN, MIN, MIN),
            x -> x.behind(MAX, MAX, MAX));
        refused("caught", BAD, x -> x.caught(-1), x -> x.caught(2), x -> x.caught(MIN), x -> x.caught(MAX));
        refused("waits", BAD, x -> x.waits(-1), x -> x.waits(2), x -> x.waits(MIN), x -> x.waits(MAX));
        refused("stands", BAD, x -> x.stands(-1), x -> x.stands(4), x -> x.stands(MIN), x -> x.stands(MAX));
        refused("stands: it is CAUGHT", STATE, x -> x.stands(1));
        refused("starts", BAD, x -> x.starts(-2), x -> x.starts(4), x -> x.starts(MIN), x -> x.starts(MAX));
        refused("pieces", BAD, x -> x.pieces(-1, 0), x -> x.pieces(3, 0), x -> x.pieces(0, -1), x -> x.pieces(0, 61),
            x -> x.pieces(MIN, MIN), x -> x.pieces(MAX, MAX));
    }

    private static void questionsOfChance() {
        refused("met", BAD, x -> x.met(-1, 0), x -> x.met(5, 0), x -> x.met(0, -1), x -> x.met(0, 100),
            x -> x.met(MIN, MIN), x -> x.met(MAX, MAX));
        refused("odds", BAD, x -> x.odds(-1, 0, 0, 0), x -> x.odds(4, 0, 0, 0), x -> x.odds(0, -1, 0, 0),
            x -> x.odds(0, 11, 0, 0), x -> x.odds(0, 0, -1, 0), x -> x.odds(0, 0, 13, 0), x -> x.odds(0, 0, 0, -1),
            x -> x.odds(0, 0, 0, 2), x -> x.odds(MIN, MIN, MIN, MIN), x -> x.odds(MAX, MAX, MAX, MAX));
        refused("odds: BAD ahead of STATE", BAD, x -> x.odds(1, 11, 0, 0), x -> x.odds(1, 0, 13, 0), x -> x.odds(1, 0, 0, 2));
        refused("odds: it is CAUGHT", STATE, x -> x.odds(1, 0, 0, 0), x -> x.odds(1, 10, 12, 1));
        refused("keepAhead", BAD, x -> x.keepAhead(-1, 0, 0, 0), x -> x.keepAhead(4, 0, 0, 0),
            x -> x.keepAhead(0, -1, 0, 0), x -> x.keepAhead(0, 11, 0, 0), x -> x.keepAhead(0, 0, -1, 0),
            x -> x.keepAhead(0, 0, 13, 0), x -> x.keepAhead(0, 0, 0, -1), x -> x.keepAhead(0, 0, 0, 11),
            x -> x.keepAhead(MIN, MIN, MIN, MIN), x -> x.keepAhead(MAX, MAX, MAX, MAX));
        refused("keepAhead: BAD ahead of STATE", BAD, x -> x.keepAhead(1, 11, 0, 0), x -> x.keepAhead(1, 0, 13, 0),
            x -> x.keepAhead(1, 0, 0, 11));
        refused("keepAhead: it is CAUGHT", STATE, x -> x.keepAhead(1, 0, 0, 0), x -> x.keepAhead(1, 10, 12, 10));
    }

    private static void kindsAndImages() {
        refused("mark", NO, x -> x.mark(-1, 0), x -> x.mark(6, 0), x -> x.mark(0, -1), x -> x.mark(0, 4),
            x -> x.mark(MIN, MIN), x -> x.mark(MAX, MAX));
        refused("keep", BAD, x -> x.keep(-1), x -> x.keep(2), x -> x.keep(MIN), x -> x.keep(MAX));
        refused("back", BAD, x -> x.back(-1), x -> x.back(2), x -> x.back(MIN), x -> x.back(MAX));
        refused("back: none was kept", STATE, x -> x.back(1));
    }

    /** Where there are no wagons there is no such thing. */
    private static void aNewTown() {
        refusedIn("of a new object", WheelTown::new, BAD, x -> x.place(8, 0), x -> x.wagon(0, 0), x -> x.stand(0, 1),
            x -> x.change(0, 1), x -> x.behind(0, 0, 0), x -> x.stands(0), x -> x.starts(0), x -> x.met(8, 0),
            x -> x.odds(0, 0, 0, 0), x -> x.keepAhead(0, 0, 0, 0));
        refusedIn("of a new object", WheelTown::new, STATE, x -> x.undo(), x -> x.back(0), x -> x.back(1));
        refusedIn("of a new object", WheelTown::new, NO, x -> x.mark(0, 0), x -> x.sun(-1));
    }
}
