/** Every promise by itself: ordinary inputs, the edges that the document names, wrong inputs; worked by hand. */
public final class PromisesTest extends TownTest {
    public static void main(String[] args) {
        aNewObject();
        typeAndClear();
        worldsThatAreTold();
        worldsWithFaults();
        aFaultChangesNothing();
        aWorldIsReadAnew();
        places();
        wagons();
        nowAndSun();
        minutes();
        bridge();
        standing();
        changing();
        undoing();
        behindMinutes();
        firstCaught();
        firstWaits();
        howLongToStand();
        startsOfWorks();
        whoBars();
        piecesOfRail();
        metAgain();
        oddsToBeAhead();
        howFarAheadToKeep();
        marksAndTrace();
        images();
        counts();
        askingChangesNothing();
        end();
    }

    // 1
    private static void aNewObject() {
        WheelTown x = new WheelTown();
        int[] now = {0, 8, 3, 5, 0, 0};
        for (int i = 0; i < now.length; i++) {
            due("new: now(" + i + ")", now[i], x.now(i));
        }
        for (int i = 0; i < 5; i++) {
            due("new: count(" + i + ")", 0, x.count(i));
        }
        for (int p = 0; p < 8; p++) {
            due("new: place(" + p + ", 0)", 1, x.place(p, 0));
            due("new: place(" + p + ", 1)", 0, x.place(p, 1));
            due("new: place(" + p + ", 2)", 0, x.place(p, 2));
        }
        due("new: place(8, 0)", BAD, x.place(8, 0));
        due("new: wagon(0, 0)", BAD, x.wagon(0, 0));
        due("new: undo()", STATE, x.undo());
        due("new: back(0)", STATE, x.back(0));
        due("new: trace()", 0, x.trace());
        due("new: starts(0)", BAD, x.starts(0));
        due("new: starts(-1)", 0, x.starts(-1));
        due("new: minute()", 0, x.minute());
        due("new: now(0)", 1, x.now(0));
    }

    // 2, 3
    private static void typeAndClear() {
        WheelTown x = new WheelTown();
        due("clear of none", 0, x.clear());
        dueOfAll("type", BAD, () -> x.type(-1), () -> x.type(256), () -> x.type(Integer.MAX_VALUE),
            () -> x.type(Integer.MIN_VALUE));
        due("type(0)", 1, x.type(0));
        due("type(255)", 2, x.type(255));
        for (int i = 3; i <= 200; i++) {
            due("type(" + i + ")", i, x.type(32));
        }
        due("type beyond 200", FULL, x.type(32));
        due("type: BAD ahead of FULL", BAD, x.type(256));
        due("count(4)", 200, x.count(4));
        due("clear of 200", 200, x.clear());
        due("count(4)", 0, x.count(4));
        due("type again", 1, x.type(32));
        due("clear of 1", 1, x.clear());
    }

    // 4
    private static void worldsThatAreTold() {
        Object[][] told = {
            {"", 0}, {"   ", 0}, {"r 4;", 1}, {"  r4 ; ", 1}, {"r12;c 11 4;", 2}, {"c 7 4;", 1},
            {"c 0 2;c 0 3;", 2}, {"s 9 20;", 1}, {"s 1 1;", 1}, {"b 7;", 1}, {"p 0;p 0;p 7;", 3},
            {"w 20 3 9 2;", 1}, {"w0 0 0 0;w0 0 0 1;w0 0 0 2;w1 0 0 0;w2 0 0 0;", 5},
            {"w0 0 0 0;w1 0 0 0;h0 1;h1 0;h0 1;h0 1;", 6}, {"w0 0 0 0;w1 0 0 0;h0 1;w2 0 0 0;h2 0;", 5}};
        for (Object[] row : told) {
            WheelTown x = new WheelTown();
            due("world of '" + row[0] + "'", (Integer) row[1], world(x, (String) row[0]));
            due("the text is empty then", 0, x.count(4));
        }
        WheelTown full = new WheelTown();
        StringBuilder text = new StringBuilder();
        for (int i = 0; i < 50; i++) {
            text.append("p 1;");
        }
        due("world of 200 bytes", 50, world(full, text.toString()));
    }

    private static void worldsWithFaults() {
        String six = "w 0 0 0 0;w 1 0 0 0;w 2 0 0 0;w 3 0 0 0;w 4 0 0 0;w 5 0 0 0;";
        Object[][] faults = {
            {";", 0}, {"4", 0}, {"x 1;", 0}, {"rr 4;", 0}, {"ra 4;", 0}, {"rz 4;", 0}, {"zr 4;", 0}, {"r 4294967300;", 2}, {"R 4;", 0}, {" R", 1}, {"r", 1}, {"r  ", 3}, {"r 4", 3},
            {"r 4;r 4;", 4}, {"r 04;", 2}, {"r 00;", 2}, {"r 100;", 2}, {"r 1234567890123;", 2}, {"r 4 5;", 4},
            {"r;", 1}, {"r x;", 2}, {"r\t4;", 1}, {"r 3;", 2}, {"r 13;", 2}, {"c 0 1;r 5;", 6}, {"r 4;c 4 1;", 6},
            {"r 5;b 5;", 6}, {"r 5;p 5;", 6}, {"p 8;", 2}, {"c 8 1;", 2}, {"c 0 0;", 4}, {"c 0 5;", 4},
            {"c 0 1", 5}, {"c 0", 3}, {"c 0;", 3}, {"c", 1}, {"s 0 1;", 2}, {"s 10 1;", 2}, {"s 1 0;", 4}, {"s 1 21;", 4},
            {"s 1 1;s 1 1;", 6}, {"s 1 1;s", 6}, {"b 8;", 2}, {"b 0;b 1;", 4}, {"w 21 0 0 0;", 2}, {"w 0 4 0 0;", 4},
            {"w 0 0 10 0;", 6}, {"w 0 0 0 3;", 8}, {"w 0 0 0 0", 9}, {"w 0 0 0 0 0;", 10}, {"w0 0 0 0w", 8},
            {"w 5 0 0 1;w 5 3 9 1;", 18}, {six, 50}, {"w0 0 0 0;w1 0 0 0;h0 1;h0 1;h0 1;h0 1;h0 1;", 38},
            {"h 0 1;", 2}, {"h", 1}, {"w0 0 0 0;h 0 0;", 13}, {"w0 0 0 0;h 1 0;", 11}, {"w0 0 0 0;h 0 1;", 13},
            {"w0 0 0 0;h0 1;w1 0 0 0;", 12}, {"r 4;" + (char) 233, 4}, {"r 4;" + (char) 0, 4}, {"r -4;", 2},
            {"r 4;;", 4}, {"r 4,", 3}, {"w 0 0 0 0;w 0 0 0 0 &", 18}, {"p 0;p", 5}, {"p 0;p 99;", 6}, {"p 0;p 100;", 6}};
        for (Object[] row : faults) {
            WheelTown x = new WheelTown();
            String text = (String) row[0];
            due("world of '" + text + "'", -10 - (Integer) row[1], world(x, text));
            due("its text stays", text.length(), x.count(4));
        }
        WheelTown full = new WheelTown();
        StringBuilder text = new StringBuilder();
        for (int i = 0; i < 49; i++) {
            text.append("p 1;");
        }
        due("world of 200 bytes that end too early", -210, world(full, text + "p  1"));
        due("it stays full", FULL, full.type(59));
    }

    private static void aFaultChangesNothing() {
        WheelTown x = town("r 5;s 2 3;b 1;p 2;c 3 4;w 3 1 2 1;");
        x.minute();
        x.keep(1);
        due("fault behind what is well", -33, world(x, "r 9;s 1 1;p 3;w 7 0 0 0"));
        int[] now = {1, 5, 2, 3, 0, 0};
        for (int i = 0; i < now.length; i++) {
            due("after a fault now(" + i + ")", now[i], x.now(i));
        }
        due("after a fault count(0)", 1, x.count(0));
        due("after a fault count(2)", 1, x.count(2));
        due("after a fault count(3)", 1, x.count(3));
        due("after a fault wagon(0, 0)", 3, x.wagon(0, 0));
        due("after a fault place(3, 0)", 4, x.place(3, 0));
        due("after a fault place(1, 2)", 1, x.place(1, 2));
        due("after a fault back(1)", 1, x.back(1));
        type(x, ";");
        due("the text goes on where it was", 4, x.world());
        due("and then all is told", 7, x.wagon(0, 0));
    }

    private static void aWorldIsReadAnew() {
        WheelTown x = town("r 5;s 2 3;b 1;p 2;c 3 4;w 3 1 2 1;w 4 0 0 0;h 0 1;");
        x.mark(0, 0);
        x.stand(0, 3);
        pass(x, 6);
        x.keep(0);
        x.keep(1);
        due("an empty text tells a world", 0, x.world());
        int[] now = {0, 8, 3, 5, 0, 0};
        for (int i = 0; i < now.length; i++) {
            due("read anew: now(" + i + ")", now[i], x.now(i));
        }
        for (int i = 0; i < 5; i++) {
            due("read anew: count(" + i + ")", 0, x.count(i));
        }
        due("read anew: place(3, 0)", 1, x.place(3, 0));
        due("read anew: place(1, 2)", 0, x.place(1, 2));
        due("read anew: back(0)", STATE, x.back(0));
        due("read anew: back(1)", STATE, x.back(1));
        due("read anew: undo()", STATE, x.undo());
        due("read anew: trace() goes on", 1, x.trace());
        due("told again", 1, world(x, "w 3 1 2 1;"));
        int[] wagon = {3, 1, 2, 1, 2, 0, 0, 0};
        for (int i = 0; i < wagon.length; i++) {
            due("told again: wagon(0, " + i + ")", wagon[i], x.wagon(0, i));
        }
    }

    // 5
    private static void places() {
        WheelTown x = town("r 12;c 11 4;c 0 2;b 11;p 11;p 0;");
        due("place(11, 0)", 4, x.place(11, 0));
        due("place(11, 1)", 1, x.place(11, 1));
        due("place(11, 2)", 1, x.place(11, 2));
        due("place(0, 0)", 2, x.place(0, 0));
        due("place(0, 1)", 1, x.place(0, 1));
        due("place(0, 2)", 0, x.place(0, 2));
        due("place(1, 0)", 1, x.place(1, 0));
        due("place(1, 1)", 0, x.place(1, 1));
        dueOfAll("place", BAD, () -> x.place(12, 0), () -> x.place(-1, 0), () -> x.place(0, 3), () -> x.place(0, -1),
            () -> x.place(Integer.MIN_VALUE, 0), () -> x.place(Integer.MAX_VALUE, 0));
    }

    // 6
    private static void wagons() {
        WheelTown x = town("c 3 4;w 3 0 5 2;w 11 2 6 1;w 0 3 7 0;w 1 1 0 0;h 0 1;h 3 0;");
        int[][] all = {{3, 2, 5, 2, 6, 0, 0, 0}, {11, 2, 6, 1, 6, 0, 0, 0}, {0, 3, 7, 0, 4, 0, 0, 0},
            {1, 2, 0, 0, 3, 0, 0, 0}};
        for (int w = 0; w < 4; w++) {
            for (int i = 0; i < 8; i++) {
                due("wagon(" + w + ", " + i + ")", all[w][i], x.wagon(w, i));
            }
        }
        dueOfAll("wagon", BAD, () -> x.wagon(4, 0), () -> x.wagon(-1, 0), () -> x.wagon(0, 8), () -> x.wagon(0, -1),
            () -> x.wagon(Integer.MAX_VALUE, 0), () -> x.wagon(5, 0));
        // A chain told from its slow end comes to all of them.
        WheelTown chain = town("w0 0 0 0;w1 0 0 0;w2 0 0 0;w3 0 0 0;w4 3 0 0;h0 1;h1 2;h2 3;h3 4;");
        for (int w = 0; w < 5; w++) {
            due("chain: wagon(" + w + ", 1)", 3, chain.wagon(w, 1));
            due("chain: wagon(" + w + ", 4)", 4, chain.wagon(w, 4));
        }
    }

    // 7, 8
    private static void nowAndSun() {
        WheelTown x = town("r 6;s 4 2;w 0 3 1 0;w 9 3 2 0;w 20 0 0 1;");
        int[] first = {0, 6, 4, 2, 0, 4};
        for (int i = 0; i < first.length; i++) {
            due("now(" + i + ")", first[i], x.now(i));
        }
        dueOfAll("now", BAD, () -> x.now(6), () -> x.now(-1), () -> x.now(Integer.MAX_VALUE));
        x.stand(0, 9);
        x.stand(1, 1);
        x.minute();
        due("now(5): 0 and 2 have", 5, x.now(5));
        pass(x, 7);
        due("now(0)", 8, x.now(0));
        due("now(4): 0 stood too long", 1, x.now(4));
        due("now(5)", 5, x.now(5));
        due("sun(0)", -2, x.sun(0));
        due("sun(3)", -2, x.sun(3));
        due("sun(4)", -1, x.sun(4));
        due("sun(8)", 0, x.sun(8));
        due("sun(1100)", 273, x.sun(1100));
        dueOfAll("sun", NO, () -> x.sun(-1), () -> x.sun(1101), () -> x.sun(Integer.MIN_VALUE));
        WheelTown fast = town("s 1 1;");
        due("sun(1100) at its fastest", 1099, fast.sun(1100));
    }

    // 9
    private static void minutes() {
        // Both on one rail: the one ahead goes first, so the one behind comes to where it was.
        WheelTown x = town("s 9 20;w 0 0 0 0;w 1 0 0 0;");
        x.minute();
        due("who is ahead goes first", 2, x.wagon(1, 0));
        due("and leaves its place", 1, x.wagon(0, 0));
        // Standing: LEFT stays, DONE comes on beyond the WORK.
        WheelTown y = town("s 9 20;w 0 2 1 0;");
        y.minute();
        y.stand(0, 2);
        due("LEFT ahead of standing", 2, y.wagon(0, 4));
        pass(y, 2);
        due("LEFT behind standing", 2, y.wagon(0, 4));
        due("DONE beyond its WORK", 2, y.wagon(0, 6));
        due("to STAND", 0, y.wagon(0, 5));
        y.minute();
        due("LEFT", 1, y.wagon(0, 4));
        y.minute();
        due("it comes on", 1, y.wagon(0, 0));
        due("LEFT anew", 3, y.wagon(0, 4));
        // Who waits has none LEFT, and goes as soon as it can.
        WheelTown z = town("s 9 20;w 0 0 0 0;w 1 3 0 0;");
        pass(z, 2);
        due("it waits", 0, z.wagon(0, 0));
        due("none is LEFT", 0, z.wagon(0, 4));
        pass(z, 2);
        due("the one ahead comes on", 2, z.wagon(1, 0));
        due("and the one behind in the same minute", 1, z.wagon(0, 0));
        // The sun: whose WAY is the sun's is caught, for ever; it stands in the way of others.
        WheelTown c = town("s 2 2;w 1 3 0 0;w 0 0 0 0;w 2 0 0 1;");
        due("minute 1", 0, c.minute());
        c.stand(1, 1);
        due("minute 2: sun -1", 0, c.minute());
        due("minute 3: sun -1", 0, c.minute());
        due("minute 4: sun 0", 0, c.minute());
        due("0 came on", 2, c.wagon(0, 0));
        due("1 with it", 1, c.wagon(1, 0));
        due("minute 5: sun 0", 0, c.minute());
        due("minute 6: sun 1 is where 1 waits", 1, c.minute());
        due("which", 2, c.now(4));
        due("wagon(1, 7)", 1, c.wagon(1, 7));
        due("minute 7", 1, c.minute());
        due("minute 8: sun 2; 0 came to 3 in time", 1, c.minute());
        due("0 is there", 3, c.wagon(0, 0));
        due("the caught one stays", 1, c.wagon(1, 0));
        pass(c, 1);
        due("minute 10: sun 3", 2, c.minute());
        due("both", 3, c.now(4));
        // 999 minutes cannot go by in 512 calls: that edge is asked beyond what is promised, for safety alone.
        WheelTown far = town("s 9 20;");
        pass(far, 999);
        due("MINUTE 999", 999, far.now(0));
        due("no more", STATE, far.minute());
        due("MINUTE 999 still", 999, far.now(0));
    }

    private static void bridge() {
        // Place 2 is the bridge: at one WAY no two, on whatever rail; the least number of one WAY goes first.
        WheelTown x = town("s 9 20;b 2;w 1 0 0 1;w 1 0 0 0;");
        x.minute();
        due("the first goes on the bridge", 2, x.wagon(0, 0));
        due("the other waits", 1, x.wagon(1, 0));
        x.minute();
        due("the first leaves", 3, x.wagon(0, 0));
        due("the other comes in the same minute", 2, x.wagon(1, 0));
        // A round ahead is another WAY: that bears both.
        WheelTown y = town("r 4;s 9 20;b 2;w 6 3 0 0;w 1 0 0 0;");
        y.minute();
        due("on the bridge a round behind", 2, y.wagon(1, 0));
        // Side by side off the bridge they may be.
        WheelTown z = town("s 9 20;b 3;w 1 0 0 1;w 1 0 0 0;");
        z.minute();
        due("side by side", 2, z.wagon(0, 0));
        due("side by side", 2, z.wagon(1, 0));
        // Two may be told to be on it.
        WheelTown both = town("s 9 20;b 3;w 3 0 0 1;w 3 0 0 0;w 2 0 0 2;");
        both.minute();
        due("both leave", 4, both.wagon(0, 0));
        due("both leave", 4, both.wagon(1, 0));
        due("a third comes", 3, both.wagon(2, 0));
    }

    // 10
    private static void standing() {
        WheelTown x = town("s 1 2;w 20 0 3 0;w 0 3 0 0;");
        dueOfAll("stand", BAD, () -> x.stand(2, 1), () -> x.stand(-1, 1), () -> x.stand(0, 0), () -> x.stand(0, 31),
            () -> x.stand(0, -1), () -> x.stand(0, Integer.MAX_VALUE));
        due("nothing was ordered", 0, x.count(3));
        due("stand(0, 30)", 30, x.stand(0, 30));
        due("stand(0, 30)", 60, x.stand(0, 30));
        due("stand(0, 30)", 90, x.stand(0, 30));
        due("stand(0, 10)", STATE, x.stand(0, 10));
        due("stand(0, 9)", 99, x.stand(0, 9));
        due("stand(0, 1)", STATE, x.stand(0, 1));
        due("stand(0, 31): BAD first", BAD, x.stand(0, 31));
        due("wagon(0, 5)", 99, x.wagon(0, 5));
        pass(x, 2);
        due("1 is caught", 2, x.now(4));
        due("stand of a caught one", STATE, x.stand(1, 1));
        due("stand of a caught one: BAD first", BAD, x.stand(1, 0));
        due("wagon(0, 5)", 97, x.wagon(0, 5));
        due("count(3)", 6, x.count(3));
    }

    // 11
    private static void changing() {
        WheelTown x = town("r 4;s 2 2;p 0;w 0 3 0 0;w 4 0 0 2;w 0 3 0 2;w 1 0 0 0;");
        dueOfAll("change", BAD, () -> x.change(4, 0), () -> x.change(-1, 0), () -> x.change(0, 3), () -> x.change(0, -1));
        due("to its own rail", STATE, x.change(0, 0));
        due("to where one of its WAY is", STATE, x.change(0, 2));
        due("not at points", STATE, x.change(3, 1));
        due("nothing was ordered", 0, x.count(3));
        due("change(0, 1)", 0, x.change(0, 1));
        due("its rail", 1, x.wagon(0, 3));
        due("its LEFT stays", 4, x.wagon(0, 4));
        due("change(2, 0)", 2, x.change(2, 0));
        due("a round ahead is another WAY", 2, x.change(1, 0));
        due("count(3)", 3, x.count(3));
        x.stand(0, 5);
        x.stand(1, 5);
        pass(x, 4);
        due("0 is caught", 1, x.now(4));
        due("change of a caught one", STATE, x.change(0, 2));
        due("change of a caught one: BAD first", BAD, x.change(0, 3));
        due("at points a round on", 0, x.change(1, 2));
    }

    // 12
    private static void undoing() {
        WheelTown x = town("p 0;s 1 3;w 0 0 2 0;w 0 3 0 1;");
        due("none", STATE, x.undo());
        x.stand(0, 4);
        x.change(0, 2);
        x.stand(1, 99);
        pass(x, 3);
        due("count(3)", 5, x.count(3));
        due("both are caught", 3, x.now(4));
        due("undo a minute", 4, x.undo());
        due("nobody is caught", 0, x.now(4));
        due("now(0)", 2, x.now(0));
        due("to STAND", 2, x.wagon(0, 5));
        due("DONE", 2, x.wagon(0, 6));
        due("LEFT", 2, x.wagon(1, 4));
        due("undo", 3, x.undo());
        due("undo", 2, x.undo());
        due("LEFT", 4, x.wagon(1, 4));
        due("undo the change", 1, x.undo());
        due("its rail", 0, x.wagon(0, 3));
        due("undo the order", 0, x.undo());
        due("to STAND", 0, x.wagon(0, 5));
        due("none", STATE, x.undo());
        due("now(0)", 0, x.now(0));
        pass(x, 1);
        for (int i = 1; i <= 12; i++) {
            x.stand(0, i);
        }
        due("ten are known", 10, x.count(3));
        for (int i = 9; i >= 0; i--) {
            due("undo", i, x.undo());
        }
        due("older ones are lost", STATE, x.undo());
        due("two orders stay", 3, x.wagon(0, 5));
        due("the minute stays", 1, x.now(0));
    }

    // 13
    private static void behindMinutes() {
        WheelTown x = town("s 1 3;w 0 1 0 0;w 20 0 0 0;");
        int[] ways = {0, 0, 1, 1, 2, 2, 2, 2};
        int[] caught = {0, 0, 0, 0, 0, 1, 1, 1};
        for (int n = 0; n < ways.length; n++) {
            due("behind(" + n + ", 0, 0)", ways[n], x.behind(n, 0, 0));
            due("behind(" + n + ", 0, 1)", caught[n], x.behind(n, 0, 1));
        }
        due("behind(60, 1, 0)", 80, x.behind(60, 1, 0));
        due("behind(60, 1, 1)", 0, x.behind(60, 1, 1));
        dueOfAll("behind", BAD, () -> x.behind(-1, 0, 0), () -> x.behind(61, 0, 0), () -> x.behind(0, 2, 0),
            () -> x.behind(0, -1, 0), () -> x.behind(0, 0, 2), () -> x.behind(0, 0, -1));
        x.stand(1, 20);
        due("with what is ordered", 60, x.behind(60, 1, 0));
        pass(x, 5);
        due("caught NOW", 1, x.behind(0, 0, 1));
        due("from NOW on", 20, x.behind(15, 1, 0));
    }

    // 14
    private static void firstCaught() {
        // 1 and 2 are caught in one minute, the sun's 5th (sun 2), 0 later on (20 + t / 2 against t - 3).
        WheelTown x = town("s 1 3;w 20 1 0 0;w 0 1 0 0;w 0 1 0 1;");
        due("caught(0)", 5, x.caught(0));
        due("caught(1): of several the least", 1, x.caught(1));
        pass(x, 5);
        due("now(4)", 6, x.now(4));
        due("one more than NOW", 40, x.caught(0));
        due("which", 0, x.caught(1));
        dueOfAll("caught", BAD, () -> x.caught(2), () -> x.caught(-1));
        WheelTown y = town("w 0 0 0 0;");
        due("never", NONE, y.caught(0));
        due("never", NONE, y.caught(1));
        // Sun 40 in minute 60 (s 1 20): a wagon of WAY 40 that is told to stand.
        WheelTown z = town("s 1 20;w 20 0 0 0;");
        pass(z, 20);
        z.stand(0, 30);
        z.stand(0, 30);
        z.stand(0, 30);
        due("behind 40", 40, z.caught(0));
        WheelTown edge = town("s 3 20;w 0 0 0 0;");
        stand(edge, 0, 90);
        due("behind 60: the last that is asked", 60, edge.caught(0));
        due("which", 0, edge.caught(1));
        WheelTown beyond = town("s 3 20;w 1 0 0 0;");
        stand(beyond, 0, 90);
        due("behind 63: not asked", NONE, beyond.caught(0));
    }

    // 15
    private static void firstWaits() {
        WheelTown x = town("s 9 20;w 0 0 0 0;w 2 3 0 0;w 5 3 0 1;w 4 1 0 1;");
        due("waits(0): 0 in minute 2, 3 in minute 2", 2, x.waits(0));
        due("waits(1): as it is reached, from ahead", 3, x.waits(1));
        due("nothing is changed", 0, x.now(0));
        dueOfAll("waits", BAD, () -> x.waits(2), () -> x.waits(-1));
        WheelTown y = town("s 9 20;w 0 3 0 0;w 2 0 0 0;");
        due("never", NONE, y.waits(0));
        due("never", NONE, y.waits(1));
        WheelTown z = town("s 9 20;w 0 0 0 0;w 1 0 0 0;");
        due("never in a row", NONE, z.waits(0));
        z.stand(1, 1);
        due("for one that stands", 1, z.waits(0));
        due("which", 0, z.waits(1));
        WheelTown edge = town("s 9 20;w 0 0 0 0;w 1 0 0 0;");
        stand(edge, 0, 59);
        stand(edge, 1, 90);
        due("in the 60th minute", 60, edge.waits(0));
        edge.stand(0, 1);
        due("in the 61st: not asked", NONE, edge.waits(0));
    }

    // 16
    private static void howLongToStand() {
        // Behind n minutes it is where it was, the sun at n / 2 - 2: less than 3 up to n = 9.
        WheelTown x = town("s 2 2;w 3 0 0 0;w 4 0 0 0;");
        due("stands(0)", 9, x.stands(0));
        due("stands(1): the one behind waits for it", 9, x.stands(1));
        due("nothing is changed", 0, x.wagon(0, 5));
        x.stand(0, 5);
        due("with those it has", 4, x.stands(0));
        dueOfAll("stands", BAD, () -> x.stands(2), () -> x.stands(-1));
        WheelTown y = town("s 9 20;w 0 0 0 0;");
        due("30 at most", 30, y.stands(0));
        stand(y, 0, 90);
        due("99 at most with those it has", 9, y.stands(0));
        y.stand(0, 9);
        due("99 at most with those it has", 0, y.stands(0));
        WheelTown z = town("s 1 2;w 5 0 0 0;w 0 3 0 1;");
        due("by no number: 1 is caught", NONE, z.stands(0));
        due("by no number: 1 is caught", NONE, z.stands(1));
        pass(z, 2);
        due("1 is caught NOW", 2, z.now(4));
        due("of a caught one", STATE, z.stands(1));
        due("none that is not NOW", 6, z.stands(0));
        // 1 is caught if it has to wait at the bridge for 0, and is not if 0 stands so long that 1 goes first.
        WheelTown odd = town("r4;s 2 3;b3;w 4 1 6 0;w 5 2 4 1;");
        due("1 is caught, if 0 goes on", 1, odd.caught(1));
        due("within 40 minutes", 1, odd.caught(0) <= 40 ? 1 : 0);
        due("and is not, if 0 stands", 1, odd.stands(0) > 0 ? 1 : 0);
    }

    // 17
    private static void startsOfWorks() {
        // From WAY 1 + s it stands up to minute s + 6, the sun then at (s + 6) / 2 - 1: safe from s = 3 on.
        WheelTown x = town("s 2 1;w 1 0 6 0;");
        due("starts(-1)", 3, x.starts(-1));
        due("starts(0)", 3, x.starts(0));
        // Apart by rails: 1 + s against (s + 6) / 3 - 1, s against (s + 8) / 3 - 1.
        WheelTown y = town("s 3 1;w 1 0 6 0;w 0 0 8 1;w 9 0 0 2;");
        due("starts(-1)", 4, y.starts(-1));
        due("starts(0)", 1, y.starts(0));
        due("starts(1)", 3, y.starts(1));
        due("starts(2): not one of these", 0, y.starts(2));
        due("nothing is changed", 0, y.wagon(0, 5) + y.wagon(1, 5) + y.now(0));
        dueOfAll("starts", BAD, () -> y.starts(3), () -> y.starts(-2), () -> y.starts(Integer.MIN_VALUE));
        y.stand(0, 6);
        due("what is ordered is not lacked, and is caught", NONE, y.starts(-1));
        due("NONE for each", NONE, y.starts(0));
        due("NONE for each, also if it is not one of these", NONE, y.starts(2));
        y.undo();
        y.minute();
        y.stand(0, 4);
        due("the rest of it", 2, y.starts(1));
        due("two more at once", 0, y.starts(0));
        // Up to three of them, those with the least numbers: the fourth, which could do nothing but be caught, goes on.
        WheelTown four = town("s 3 20;w 5 0 1 0;w 6 0 1 0;w 7 0 1 0;w 0 0 9 1;w 1 0 9 1;");
        due("starts(-1)", 0, four.starts(-1));
        WheelTown late = town("s 2 1;w 20 0 1 0;w 20 0 1 1;w 20 0 1 2;w 0 0 9 0;");
        due("the fourth is not ordered", 0, late.starts(-1));
        WheelTown third = town("s 2 1;w 20 0 1 0;w 20 0 1 1;w 0 0 9 0;");
        due("the third is", NONE, third.starts(-1));
        WheelTown none = town("s 2 1;w 0 3 0 0;");
        due("nobody lacks, but one is caught", NONE, none.starts(-1));
        WheelTown well = town("w 0 0 0 0;");
        due("nobody lacks, nobody is caught", 0, well.starts(-1));
        due("nobody lacks, nobody is caught", 0, well.starts(0));
        // Both (0, 2) and (1, 1) are safe: the first by wagons' numbers.
        WheelTown tie = town("s 3 2;w 1 0 1 0;w 0 0 6 0;");
        due("of several the first: together", 2, tie.starts(-1));
        due("of several the first: 0", 0, tie.starts(0));
        due("of several the first: 1", 2, tie.starts(1));
        // From WAY s it stands up to minute s + 7, the sun then at (s + 7) / 2 - 1: safe from s = 6 on; by 8 from 7.
        due("start 6", 6, town("s 2 1;w 0 0 7 0;").starts(0));
        due("start 7 is too late", NONE, town("s 2 1;w 0 0 8 0;").starts(0));
        // It stands at WAY 1 for 60 minutes; the sun is there in minute 42.
        WheelTown forty = town("s 2 20;w 1 0 0 0;");
        stand(forty, 0, 60);
        forty.minute();
        due("caught behind 41: not asked", 0, forty.starts(-1));
        due("caught behind 41: not asked", 30, forty.stands(0));
        forty.minute();
        due("caught behind 40", NONE, forty.starts(-1));
        due("caught behind 40", NONE, forty.stands(0));
        // A caught one is not one of the three: 3 is, and is caught by its 9 minutes.
        WheelTown three = town("s 1 1;w 0 3 9 0;w 20 0 1 0;w 20 0 1 1;w 3 0 9 2;");
        three.minute();
        due("0 is caught", 1, three.now(4));
        due("the third of these is 3", NONE, three.starts(-1));
        due("the third of these is 3", 3, three.bars());
        // 3 of 6 minutes are DONE in minute 6 at WAY 4: 3 more are safe at once (the sun is at 3 in minute 9), 6 were not.
        WheelTown half = town("s 2 1;w 1 0 6 0;");
        pass(half, 3);
        half.stand(0, 3);
        pass(half, 3);
        due("what is DONE is not lacked", 0, half.starts(0));
        WheelTown gone = town("s 1 1;w 0 3 9 0;w 9 0 0 1;");
        gone.minute();
        due("0 is caught", 1, gone.now(4));
        due("it lacks nothing any more", 0, gone.starts(-1));
    }

    // 18
    private static void whoBars() {
        WheelTown x = town("s 2 1;w 1 0 6 0;");
        due("there are starts", NONE, x.bars());
        // To stand 8 minutes 1 would have to be further on than 0, slow and ahead of it, lets it come.
        WheelTown y = town("r4;s 2 2;w 3 1 6 1;w 0 0 8 1;");
        due("no starts", NONE, y.starts(-1));
        due("1 bars", 1, y.bars());
        WheelTown z = town("r4;s 2 4;w 4 2 8 1;");
        due("it alone", 0, z.bars());
        WheelTown two = town("s 2 1;w 0 0 9 0;w 0 0 9 1;");
        due("no starts", NONE, two.starts(-1));
        due("nor without one of them", NONE, two.bars());
        WheelTown none = town("s 2 1;w 0 3 0 0;");
        due("nobody is ordered", NONE, none.bars());
        WheelTown first = town("s 2 1;w 5 0 1 2;w 0 0 9 0;");
        due("not the first of all, the first that bars", 1, first.bars());
    }

    // 19
    private static void piecesOfRail() {
        WheelTown x = town("p 0;s 1 20;w 0 3 0 0;w 6 0 0 0;w 9 0 0 1;");
        due("pieces(0, 0)", 7, x.pieces(0, 0));
        due("pieces(0, 1)", 8, x.pieces(0, 1));
        due("pieces(0, 4): the last came on", 10, x.pieces(0, 4));
        due("pieces(0, 60): the last is caught in minute 27 at 6", 61, x.pieces(0, 60));
        due("pieces(1, 60)", 1, x.pieces(1, 60));
        due("pieces(2, 60)", 0, x.pieces(2, 60));
        x.stand(1, 30);
        due("the most of the minutes, not the last", 7, x.pieces(0, 8));
        dueOfAll("pieces", BAD, () -> x.pieces(3, 0), () -> x.pieces(-1, 0), () -> x.pieces(0, 61), () -> x.pieces(0, -1));
        x.change(0, 2);
        due("without the one that changed", 1, x.pieces(0, 0));
        due("where it is", 1, x.pieces(2, 0));
    }

    // 20
    private static void metAgain() {
        WheelTown x = town("r 4;s 1 5;w 0 0 0 0;w 4 0 0 1;w 2 3 0 2;");
        due("met(0, 0)", 3, x.met(0, 0));
        due("met(2, 0)", 4, x.met(2, 0));
        due("met(1, 0)", 0, x.met(1, 0));
        due("met(2, 2)", 7, x.met(2, 2));
        due("met(3, 7)", 7, x.met(3, 7));
        due("met(0, 8): 2 is at 4, THE SUN at 3", 7, x.met(0, 8));
        due("met(0, 9): 2 is there still, but caught", 0, x.met(0, 9));
        due("met(3, 99)", 3, x.met(3, 99));
        dueOfAll("met", BAD, () -> x.met(4, 0), () -> x.met(-1, 0), () -> x.met(0, 100), () -> x.met(0, -1));
        x.stand(0, 9);
        pass(x, 3);
        due("orders and minutes change nothing of it", 3, x.met(0, 0));
        due("orders and minutes change nothing of it", 7, x.met(2, 2));
    }

    // 21
    private static void oddsToBeAhead() {
        // WAY 0 + moves against t - 1: it has to move in each minute.
        WheelTown x = town("s 1 1;b 1;w 0 0 0 0;w 1 3 0 0;");
        due("upper of 7 in 10", 7, x.odds(0, 3, 1, 0));
        due("lower", 10, x.odds(0, 3, 1, 1));
        due("upper of 49 in 100", 49, x.odds(0, 3, 2, 0));
        due("lower", 100, x.odds(0, 3, 2, 1));
        due("least terms: 1 in 4", 1, x.odds(0, 5, 2, 0));
        due("least terms: 1 in 4", 4, x.odds(0, 5, 2, 1));
        due("never stands", 1, x.odds(0, 0, 12, 0));
        due("never stands", 1, x.odds(0, 0, 12, 1));
        due("always stands", 0, x.odds(0, 10, 12, 0));
        due("always stands", 1, x.odds(0, 10, 12, 1));
        due("behind none", 1, x.odds(0, 10, 0, 0));
        due("behind none", 1, x.odds(0, 10, 0, 1));
        // 9 to the 12th by 10 to the 12th.
        due("9 in 10, 12 times", 282429536481L, x.odds(0, 1, 12, 0));
        due("9 in 10, 12 times", 1000000000000L, x.odds(0, 1, 12, 1));
        dueOfAll("odds", BAD, () -> x.odds(2, 0, 0, 0), () -> x.odds(-1, 0, 0, 0), () -> x.odds(0, -1, 0, 0),
            () -> x.odds(0, 11, 0, 0), () -> x.odds(0, 0, -1, 0), () -> x.odds(0, 0, 13, 0), () -> x.odds(0, 0, 0, 2),
            () -> x.odds(0, 0, 0, -1));
        x.stand(0, 30);
        due("not told to stand", 7, x.odds(0, 3, 1, 0));
        x.minute();
        due("0 is caught", 1, x.now(4));
        due("of a caught one", STATE, x.odds(0, 0, 0, 0));
        due("BAD first", BAD, x.odds(0, 0, 0, 2));
        // 2 minutes are LEFT of 3: by minute 4 (THE SUN at 1) it has to go in two of three minutes.
        WheelTown y = town("s 1 3;w 1 2 0 0;");
        y.minute();
        due("not caught ahead of minute 4", 1, y.odds(0, 5, 2, 0));
        due("not caught ahead of minute 4", 1, y.odds(0, 5, 2, 1));
        due("two of three at least", 1, y.odds(0, 5, 3, 0));
        due("two of three at least", 2, y.odds(0, 5, 3, 1));
        // Hitched ones go by the greatest pace, alone too.
        WheelTown h = town("s 1 1;w 0 0 0 0;w 9 1 0 0;h 0 1;");
        due("by pace 1 it is caught", 0, h.odds(0, 0, 1, 0));
    }

    // 22
    private static void howFarAheadToKeep() {
        WheelTown x = town("s 9 20;w 0 0 0 0;");
        due("it stands 12 minutes, the sun comes 1 place", 18, x.keepAhead(0, 10, 12, 10));
        due("it stands 8 minutes", 19, x.keepAhead(0, 10, 8, 10));
        due("c = 0: always", 20, x.keepAhead(0, 10, 12, 0));
        due("behind none it is not caught", 20, x.keepAhead(0, 10, 0, 10));
        due("it goes on each minute", 20, x.keepAhead(0, 0, 12, 10));
        due("1 in 2 to be off in the first minute", 20, x.keepAhead(0, 5, 1, 5));
        due("not 6 in 10", 19, x.keepAhead(0, 5, 1, 6));
        dueOfAll("keepAhead", BAD, () -> x.keepAhead(1, 0, 0, 0), () -> x.keepAhead(-1, 0, 0, 0),
            () -> x.keepAhead(0, -1, 0, 0), () -> x.keepAhead(0, 11, 0, 0), () -> x.keepAhead(0, 0, -1, 0),
            () -> x.keepAhead(0, 0, 13, 0), () -> x.keepAhead(0, 0, 0, -1), () -> x.keepAhead(0, 0, 0, 11));
        WheelTown y = town("s 1 1;w 0 0 0 0;w 20 0 0 0;");
        due("49 in 100 are less than 5 in 10", NONE, y.keepAhead(0, 3, 2, 5));
        due("not less than 4 in 10", 0, y.keepAhead(0, 3, 2, 4));
        due("beyond its LEAD, going on", 20, y.keepAhead(1, 0, 12, 10));
        due("beyond its LEAD, standing: THE SUN comes to 1 and 18", 18, y.keepAhead(1, 10, 2, 10));
        y.stand(0, 1);
        y.minute();
        due("of a caught one", STATE, y.keepAhead(0, 0, 0, 0));
        due("BAD first", BAD, y.keepAhead(0, 0, 0, 11));
    }

    // 23, 27
    private static void marksAndTrace() {
        WheelTown x = town("s 2 4;w 7 1 5 2;w 3 3 0 0;h 0 1;");
        x.stand(0, 3);
        pass(x, 3);
        due("trace()", 0, x.trace());
        due("WAGON", 7, x.mark(0, 0));
        due("trace()", 1, x.trace());
        due("FORGE", 10, x.mark(1, 0));
        due("trace()", 12, x.trace());
        due("CHAPEL: by the pace by which it goes", 4, x.mark(2, 0));
        due("trace()", 113, x.trace());
        due("TENDER", 20, x.mark(3, 0));
        due("trace()", 1124, x.trace());
        due("HOUSE", 6, x.mark(4, 0));
        due("trace()", 11225, x.trace());
        due("RAILCART: 7 and 7 less -3", 17, x.mark(5, 0));
        due("trace()", 111226, x.trace());
        dueOfAll("mark", NO, () -> x.mark(6, 0), () -> x.mark(-1, 0), () -> x.mark(0, 2), () -> x.mark(0, -1));
        due("refused: trace() stays", 111226, x.trace());
        x.keep(0);
        x.mark(0, 1);
        x.undo();
        x.back(0);
        due("no image and no undo has the trace", 111227, x.trace());
    }

    // 24, 25
    private static void images() {
        WheelTown x = town("p 0;s 1 3;w 0 3 0 0;");
        dueOfAll("keep", BAD, () -> x.keep(2), () -> x.keep(-1));
        dueOfAll("back", BAD, () -> x.back(2), () -> x.back(-1));
        due("none was kept", STATE, x.back(0));
        due("none was kept", STATE, x.back(1));
        x.change(0, 1);
        x.stand(0, 2);
        due("keep(0)", 0, x.keep(0));
        x.minute();
        due("keep(1)", 1, x.keep(1));
        pass(x, 2);
        due("it is caught", 1, x.now(4));
        due("back(1)", 1, x.back(1));
        due("not caught", 0, x.now(4));
        due("MINUTE", 1, x.now(0));
        due("DONE", 1, x.wagon(0, 6));
        due("to STAND", 1, x.wagon(0, 5));
        due("may be UNDONE", 3, x.count(3));
        due("back(0)", 0, x.back(0));
        due("may be UNDONE", 2, x.count(3));
        due("undo", 1, x.undo());
        due("undo", 0, x.undo());
        due("its rail", 0, x.wagon(0, 3));
        due("an image is not used up", 0, x.back(0));
        due("its rail", 1, x.wagon(0, 3));
        x.stand(0, 5);
        due("what goes on does not change an image", 1, x.back(1));
        due("to STAND", 1, x.wagon(0, 5));
        due("an image is kept anew", 1, x.keep(0));
        due("back to that", 1, x.back(0));
        type(x, "abc");
        x.back(1);
        due("the text is in no image", 3, x.count(4));
        // Minutes that are written over behind the image stay in it.
        WheelTown y = town("w 0 0 0 0;");
        pass(y, 10);
        y.keep(0);
        pass(y, 15);
        y.back(0);
        for (int i = 9; i >= 0; i--) {
            due("undo", i, y.undo());
            due("MINUTE", i, y.now(0));
            due("WAY", i, y.wagon(0, 0));
        }
    }

    // 26
    private static void counts() {
        WheelTown x = town("p 1;p 1;p 3;w0 0 0 0;w1 0 0 0;w2 0 0 0;h 0 1;h 1 2;");
        x.minute();
        x.type(1);
        int[] all = {3, 2, 2, 1, 1};
        for (int i = 0; i < all.length; i++) {
            due("count(" + i + ")", all[i], x.count(i));
        }
        dueOfAll("count", BAD, () -> x.count(5), () -> x.count(-1), () -> x.count(Integer.MIN_VALUE));
    }

    private static void askingChangesNothing() {
        WheelTown x = town("r 6;s 2 3;c 1 3;b 4;p 2;w 0 0 4 0;w 2 1 2 0;w 1 0 0 1;w 0 2 5 2;h 0 2;");
        x.stand(1, 2);
        x.minute();
        String before = sight(x);
        x.behind(60, 0, 0);
        x.caught(0);
        x.waits(0);
        x.stands(3);
        x.starts(-1);
        x.bars();
        x.pieces(0, 60);
        x.met(0, 99);
        x.odds(0, 5, 12, 0);
        x.keepAhead(0, 5, 12, 5);
        due("all is as ahead of the asking", 1, sight(x).equals(before) ? 1 : 0);
    }

    private static String sight(WheelTown x) {
        StringBuilder sight = new StringBuilder();
        for (int i = 0; i < 6; i++) {
            sight.append(x.now(i)).append(' ').append(x.count(i)).append(' ');
            for (int p = 0; p < 8; p++) {
                sight.append(x.place(p, i)).append(' ');
            }
        }
        for (int w = 0; w < 5; w++) {
            for (int i = 0; i < 8; i++) {
                sight.append(x.wagon(w, i)).append(' ');
            }
        }
        return sight.append(x.trace()).toString();
    }
}
