import java.util.function.LongSupplier;

/** What the tests that are worked by hand have in common: towns told by a text, and answers held against those due. */
abstract class TownTest {
    static final int BAD = -1;
    static final int STATE = -2;
    static final int FULL = -3;
    static final int NONE = -9;
    static final int NO = -1000000;

    private static int wrong = 0;
    private static int asked = 0;

    static void due(String what, long want, long got) {
        asked++;
        if (got != want) {
            wrong++;
            System.out.println(what + " answered " + got + ", due is " + want);
        }
    }

    static void dueAlike(String what, String want, String got) {
        asked++;
        if (!got.equals(want)) {
            wrong++;
            System.out.println(what + " left " + got + ", due is " + want);
        }
    }

    static void dueOfAll(String what, long want, LongSupplier... calls) {
        for (int i = 0; i < calls.length; i++) {
            due(what + " (" + i + ")", want, calls[i].getAsLong());
        }
    }

    static void type(WheelTown x, String text) {
        for (char c : text.toCharArray()) {
            x.type(c);
        }
    }

    static int world(WheelTown x, String text) {
        type(x, text);
        return x.world();
    }

    static WheelTown town(String text) {
        WheelTown x = new WheelTown();
        int items = world(x, text);
        due("'" + text + "' was refused (1: it was): " + items, 0, items < 0 ? 1 : 0);
        return x;
    }

    static WheelTown townAfter(int minutes, String text) {
        WheelTown x = town(text);
        pass(x, minutes);
        return x;
    }

    static void pass(WheelTown x, int minutes) {
        for (int i = 0; i < minutes; i++) {
            x.minute();
        }
    }

    static void stand(WheelTown x, int w, int minutes) {
        for (int rest = minutes; rest > 0; rest -= 30) {
            x.stand(w, Math.min(30, rest));
        }
    }

    /** Ends the test: by exit code 1, if an answer was not as due. */
    static void end() {
        System.out.println(wrong == 0 ? asked + " answers are as due" : wrong + " answers are not as due");
        if (wrong != 0) {
            System.exit(1);
        }
    }
}
