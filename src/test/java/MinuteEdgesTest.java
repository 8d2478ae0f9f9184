/** Each bound on minutes and orders (the document's part 2, promises 6, 7 and 9 to 12): inside, at it, outside. */
public final class MinuteEdgesTest extends TownTest {
    public static void main(String[] args) {
        aPlaceIsWhatIsLeftOverOfAWay();
        leftAtFirstAndAsItComes();
        standAndDoneAtFirst();
        minuteNoughtAtFirst();
        greatestWayFirst();
        ofSeveralTheLeastNumber();
        caughtOnesDoNothing();
        whoHasToStandStands();
        leftIsNoughtAtLeast();
        theNextPlaceIsTaken();
        theNextPlaceIsTakenByACaughtOne();
        theBridgeBearsOneAlone();
        theBridgeByThatVeryWay();
        theSunsWayOrLess();
        theSunComesBehindTheWagons();
        caughtForEver();
        workThatIsDone();
        minutesToStand();
        ninetyNineAtMost();
        standOfACaughtOne();
        railsToChangeTo();
        changeAtPointsAlone();
        changeToItsOwnRail();
        changeToWhereAWagonIs();
        changeOfACaughtOne();
        tenAreKnown();
        noneToBeUndone();
        allIsAsAheadOfIt();
        whatIsNoOrder();
        end();
    }

    private static void dueWagon(String what, WheelTown x, int w, int way, int left, int stand, int done) {
        due(what + ": WAY of " + w, way, x.wagon(w, 0));
        due(what + ": LEFT of " + w, left, x.wagon(w, 4));
        due(what + ": to STAND of " + w, stand, x.wagon(w, 5));
        due(what + ": DONE of " + w, done, x.wagon(w, 6));
    }

    // going on it comes again: its PLACE is what is left over of that by n
    private static void aPlaceIsWhatIsLeftOverOfAWay() {
        WheelTown x = town("r 4;s 9 20;c 0 4;c 3 2;w 3 0 0 0;");
        due("LEFT at the last place", 2, x.wagon(0, 4));
        x.minute();
        dueWagon("a minute ahead", x, 0, 3, 1, 0, 0);
        x.minute();
        dueWagon("round", x, 0, 4, 4, 0, 0);
        pass(x, 4);
        dueWagon("and on", x, 0, 5, 1, 0, 0);
        due("WAY 20 is place 0 of 4", 4, town("r 4;c 0 4;w 20 0 0 0;").wagon(0, 4));
        due("WAY 20 is place 0 of 5", 4, town("r 5;c 0 4;w 20 0 0 0;").wagon(0, 4));
        due("WAY 20 is place 8 of 12", 4, town("r 12;c 8 4;w 20 0 0 0;").wagon(0, 4));
        due("WAY 12 is place 0 of 12", 4, town("r 12;c 0 4;w 12 0 0 0;").wagon(0, 4));
        due("WAY 11 is place 11 of 12", 4, town("r 12;c 11 4;w 11 0 0 0;").wagon(0, 4));
        due("WAY 8 is place 0 at first", 4, town("c 0 4;w 8 0 0 0;").wagon(0, 4));
        due("WAY 7 is place 7 at first", 4, town("c 7 4;w 7 0 0 0;").wagon(0, 4));
    }

    // minutes LEFT at its PLACE (what that COSTS and its PACE, as it comes there; at first, too)
    private static void leftAtFirstAndAsItComes() {
        WheelTown least = town("s 9 20;w 0 0 0 0;");
        due("least at first", 1, least.wagon(0, 4));
        least.minute();
        dueWagon("least as it comes", least, 0, 1, 1, 0, 0);
        WheelTown most = town("s 9 20;c 0 4;c 1 4;w 0 3 0 0;");
        due("most at first", 7, most.wagon(0, 4));
        pass(most, 6);
        dueWagon("a minute ahead", most, 0, 0, 1, 0, 0);
        most.minute();
        dueWagon("most as it comes", most, 0, 1, 7, 0, 0);
        WheelTown hitched = town("s 9 20;w 0 0 0 0;w 9 2 0 1;h 0 1;");
        pass(hitched, 3);
        dueWagon("by the PACE by which it goes", hitched, 0, 1, 3, 0, 0);
    }

    // minutes to STAND (0 at first), DONE (0 at first)
    private static void standAndDoneAtFirst() {
        WheelTown x = town("w 0 3 9 0;w 20 0 9 2;");
        for (int w = 0; w < 2; w++) {
            due("to STAND at first", 0, x.wagon(w, 5));
            due("DONE at first", 0, x.wagon(w, 6));
            due("CAUGHT at first", 0, x.wagon(w, 7));
        }
        x.stand(0, 9);
        x.stand(1, 9);
        pass(x, 3);
        world(x, "w 0 3 9 0;w 20 0 9 2;");
        for (int w = 0; w < 2; w++) {
            due("to STAND, read anew", 0, x.wagon(w, 5));
            due("DONE, read anew", 0, x.wagon(w, 6));
        }
    }

    // MINUTE 0 at first, 999 at most (512 calls don't come so far, but by them it is not refused)
    private static void minuteNoughtAtFirst() {
        WheelTown x = new WheelTown();
        due("at first", 0, x.now(0));
        for (int t = 1; t <= 500; t++) {
            due("minute " + t, 0, x.minute());
        }
        due("MINUTE", 500, x.now(0));
        // Beyond what is promised, for safety alone.
        pass(x, 498);
        due("MINUTE 998", 998, x.now(0));
        due("a minute more", 0, x.minute());
        due("MINUTE 999", 999, x.now(0));
        due("no more", STATE, x.minute());
        due("MINUTE 999", 999, x.now(0));
        due("may be UNDONE", 9, x.undo());
        due("and go by again", 0, x.minute());
    }

    // WAGONS one by one, that with the greatest WAY first
    private static void greatestWayFirst() {
        for (String text : new String[] {"w 0 0 0 0;w 1 0 0 0;w 2 0 0 0;", "w 2 0 0 0;w 1 0 0 0;w 0 0 0 0;"}) {
            WheelTown x = townAfter(1, "s 9 20;" + text);
            due("the first of a row comes on", 1, (x.wagon(0, 0) == 3 ? 1 : 0) + (x.wagon(2, 0) == 3 ? 1 : 0));
            due("the next one comes to where it was", 2, x.wagon(1, 0));
            due("all come on", 6, x.wagon(0, 0) + x.wagon(1, 0) + x.wagon(2, 0));
        }
        // By WAY, not by PLACE: 1, at place 1 of a round ahead, goes first on the bridge of place 2.
        WheelTown y = townAfter(1, "r 4;s 9 20;b 2;w 3 0 0 0;w 5 0 0 0;");
        due("a round ahead", 6, y.wagon(1, 0));
        due("the one behind", 4, y.wagon(0, 0));
    }

    // of several that with the least number
    private static void ofSeveralTheLeastNumber() {
        for (int rail = 0; rail < 3; rail++) {
            WheelTown x = townAfter(1, "s 9 20;b 2;w 1 0 0 " + rail + ";w 1 0 0 " + (rail + 1) % 3 + ";w 1 0 0 "
                + (rail + 2) % 3 + ";");
            due("0 goes on the bridge", 2, x.wagon(0, 0));
            due("1 waits", 1, x.wagon(1, 0));
            due("2 waits", 1, x.wagon(2, 0));
            x.minute();
            due("then 1", 2, x.wagon(1, 0));
            due("2 waits", 1, x.wagon(2, 0));
            x.minute();
            due("then 2", 2, x.wagon(2, 0));
        }
    }

    // one that is CAUGHT does nothing
    private static void caughtOnesDoNothing() {
        WheelTown x = town("s 1 1;w 0 1 9 0;w 0 3 9 1;w 20 0 0 0;");
        x.stand(0, 5);
        due("both are caught", 2, x.minute());
        dueWagon("as it was caught", x, 0, 0, 2, 4, 1);
        dueWagon("as it was caught", x, 1, 0, 3, 0, 0);
        pass(x, 9);
        dueWagon("later on", x, 0, 0, 2, 4, 1);
        dueWagon("later on", x, 1, 0, 3, 0, 0);
    }

    // one that has to STAND stands: one less, DONE one more (else LEFT)
    private static void whoHasToStandStands() {
        WheelTown x = town("s 9 20;w 0 1 1 0;");
        x.stand(0, 2);
        x.minute();
        dueWagon("the first minute", x, 0, 0, 2, 1, 1);
        x.minute();
        dueWagon("the last minute, beyond its WORK", x, 0, 0, 2, 0, 2);
        x.minute();
        dueWagon("it goes", x, 0, 0, 1, 0, 2);
        x.minute();
        dueWagon("it comes on", x, 0, 1, 2, 0, 2);
        x.stand(0, 1);
        x.minute();
        dueWagon("one minute", x, 0, 1, 2, 0, 3);
        x.minute();
        dueWagon("it goes", x, 0, 1, 1, 0, 3);
        // Who stands does not wait, though its way on is taken.
        WheelTown y = town("s 9 20;w 0 0 0 0;w 1 3 0 0;");
        y.stand(0, 1);
        y.minute();
        dueWagon("LEFT stays", y, 0, 0, 1, 0, 1);
        // Standing with none LEFT it comes on as soon as it goes again.
        pass(y, 1);
        dueWagon("it waits", y, 0, 0, 0, 0, 1);
        y.stand(0, 4);
        pass(y, 4);
        dueWagon("it stands with none LEFT", y, 0, 0, 0, 0, 5);
        y.minute();
        dueWagon("it comes on at once", y, 0, 1, 1, 0, 5);
    }

    // else one LEFT less (0 at least), and if none is LEFT, it comes to the next PLACE
    private static void leftIsNoughtAtLeast() {
        WheelTown x = town("s 9 20;w 0 0 0 0;w 1 0 0 0;");
        x.stand(1, 5);
        for (int t = 1; t <= 5; t++) {
            x.minute();
            dueWagon("it waits, minute " + t, x, 0, 0, 0, 0, 0);
        }
        x.minute();
        dueWagon("it comes on with the one ahead", x, 0, 1, 1, 0, 0);
        dueWagon("the one ahead", x, 1, 2, 1, 0, 5);
    }

    // if no WAGON is on its RAIL there
    private static void theNextPlaceIsTaken() {
        WheelTown same = townAfter(1, "s 9 20;w 0 0 0 1;w 1 3 0 1;");
        due("on its RAIL", 0, same.wagon(0, 0));
        WheelTown other = townAfter(1, "s 9 20;w 0 0 0 1;w 1 3 0 2;w 1 3 0 0;");
        due("on the other RAILS", 1, other.wagon(0, 0));
        WheelTown further = townAfter(1, "s 9 20;w 0 0 0 1;w 2 3 0 1;");
        due("one further on", 1, further.wagon(0, 0));
        further.minute();
        due("but no further", 1, further.wagon(0, 0));
        WheelTown round = townAfter(1, "r 4;s 9 20;w 0 0 0 1;w 5 3 0 1;");
        due("a round ahead", 1, round.wagon(0, 0));
    }

    // (CAUGHT ones, too): whom THE SUN has, it has all behind, so no other comes upon one, and none goes through it
    private static void theNextPlaceIsTakenByACaughtOne() {
        WheelTown x = town("s 2 1;w 1 0 0 0;w 0 0 0 0;w 20 0 0 1;");
        x.stand(0, 9);
        due("MINUTE 1", 0, x.minute());
        due("MINUTE 2: the one that waits is caught", 1, x.minute());
        due("which", 2, x.now(4));
        due("MINUTE 3", 1, x.minute());
        due("MINUTE 4: the one ahead, too", 2, x.minute());
        due("which", 3, x.now(4));
        due("nobody waits", NONE, x.waits(0));
        pass(x, 9);
        due("where it was", 1, x.wagon(0, 0));
        due("where it waited", 0, x.wagon(1, 0));
    }

    // where that is the BRIDGE, none is on any RAIL on it
    private static void theBridgeBearsOneAlone() {
        for (int rail = 0; rail < 3; rail++) {
            String ahead = "w 2 3 0 " + rail + ";";
            due("taken by rail " + rail, 1, townAfter(1, "s 9 20;b 2;" + ahead + "w 1 0 0 " + (rail + 1) % 3 + ";").wagon(1, 0));
            due("taken by rail " + rail, 1, townAfter(1, "s 9 20;b 2;" + ahead + "w 1 0 0 " + (rail + 2) % 3 + ";").wagon(1, 0));
            due("taken by rail " + rail, 1, townAfter(1, "s 9 20;b 2;" + ahead + "w 1 0 0 " + rail + ";").wagon(1, 0));
            due("no bridge", 2, townAfter(1, "s 9 20;b 1;" + ahead + "w 1 0 0 " + (rail + 1) % 3 + ";").wagon(1, 0));
            due("no bridge", 2, townAfter(1, "s 9 20;b 3;" + ahead + "w 1 0 0 " + (rail + 1) % 3 + ";").wagon(1, 0));
        }
        // To leave it, its own RAIL has to be free alone.
        due("off it", 3, townAfter(1, "s 9 20;b 2;w 2 0 0 0;w 3 3 0 1;").wagon(0, 0));
        due("not off it", 2, townAfter(1, "s 9 20;b 2;w 2 0 0 0;w 3 3 0 0;").wagon(0, 0));
        due("free", 2, townAfter(1, "s 9 20;b 2;w 1 0 0 0;").wagon(0, 0));
        // As soon as the one on it leaves, in the same minute, the next one comes.
        WheelTown x = townAfter(1, "s 9 20;b 2;w 2 0 0 0;w 1 0 0 1;");
        due("left", 3, x.wagon(0, 0));
        due("come", 2, x.wagon(1, 0));
        // The bridge at place 0 is there again and again.
        WheelTown y = townAfter(1, "r 4;s 9 20;b 0;w 4 3 0 0;w 3 0 0 1;");
        due("a round on", 3, y.wagon(1, 0));
    }

    // (by WAYS: that very WAY)
    private static void theBridgeByThatVeryWay() {
        WheelTown x = townAfter(1, "r 4;s 9 20;b 2;w 6 3 0 0;w 1 0 0 1;");
        due("a round behind", 2, x.wagon(1, 0));
        WheelTown y = townAfter(1, "r 4;s 9 20;b 2;w 2 3 0 0;w 5 0 0 0;");
        due("a round ahead", 6, y.wagon(1, 0));
        WheelTown z = townAfter(1, "r 4;s 9 20;b 2;w 6 3 0 0;w 5 0 0 1;");
        due("that very WAY", 5, z.wagon(1, 0));
    }

    // each whose WAY is THE SUN's or less is CAUGHT
    private static void theSunsWayOrLess() {
        WheelTown x = town("s 1 1;w 3 3 0 0;w 2 3 0 1;w 1 3 0 2;");
        due("MINUTE 1: THE SUN at 0", 0, x.minute());
        due("MINUTE 2: THE SUN at 1", 1, x.minute());
        due("its WAY", 4, x.now(4));
        due("MINUTE 3: THE SUN at 2", 2, x.minute());
        due("its WAY and less", 6, x.now(4));
        due("MINUTE 4: they come on, THE SUN is at 3", 2, x.minute());
        due("one ahead of it", 4, x.wagon(0, 0));
        due("MINUTE 5: THE SUN at 4", 3, x.minute());
        due("all", 7, x.now(4));
        // EACH 3, LEAD 5: WAY 0 is reached in MINUTE 15, not in 14.
        WheelTown y = town("w 0 0 0 0;");
        y.stand(0, 30);
        pass(y, 13);
        due("MINUTE 14", 0, y.minute());
        due("MINUTE 15", 1, y.minute());
        // As far behind as it may be, the slowest, and at the nearest, the fastest.
        WheelTown far = town("s 9 20;w 0 0 0 0;");
        stand(far, 0, 99);
        pass(far, 99);
        stand(far, 0, 99);
        pass(far, 80);
        due("MINUTE 179", 0, far.now(4));
        due("MINUTE 180", 1, far.minute());
        WheelTown near = town("s 1 1;w 0 1 0 0;");
        due("MINUTE 1", 1, near.minute());
    }

    // Then the MINUTE is one more, and each ..
    private static void theSunComesBehindTheWagons() {
        WheelTown x = town("s 1 1;w 0 0 0 0;");
        for (int t = 1; t <= 9; t++) {
            due("it comes on just ahead", 0, x.minute());
            due("one ahead of THE SUN", 1, x.wagon(0, 0) - x.sun(x.now(0)));
        }
        due("a new town has nobody caught", 0, town("s 1 1;w 0 3 0 0;").now(4));
    }

    // for ever
    private static void caughtForEver() {
        WheelTown x = town("s 9 1;w 0 3 0 0;w 20 0 0 1;");
        x.stand(0, 20);
        pass(x, 9);
        due("caught", 1, x.now(4));
        for (int t = 10; t <= 60; t++) {
            due("MINUTE " + t, 1, x.minute());
        }
        due("wagon(0, 7)", 1, x.wagon(0, 7));
        due("wagon(1, 7)", 0, x.wagon(1, 7));
    }

    // 5 which have their WORK DONE (bits); DONE (minutes that it stood, of its WORK and beyond)
    private static void workThatIsDone() {
        WheelTown x = town("s 9 20;w 0 0 2 0;w 5 0 9 0;w 9 0 0 0;");
        due("that without WORK has it", 4, x.now(5));
        x.stand(0, 3);
        x.stand(1, 9);
        x.minute();
        due("one of two", 4, x.now(5));
        x.minute();
        due("two of two", 5, x.now(5));
        x.minute();
        due("three of two", 5, x.now(5));
        due("DONE beyond", 3, x.wagon(0, 6));
        pass(x, 5);
        due("eight of nine", 5, x.now(5));
        x.minute();
        due("nine of nine", 7, x.now(5));
        due("no bits of none", 0, new WheelTown().now(5));
        // Who is caught keeps what is DONE.
        WheelTown y = town("s 1 1;w 0 0 1 0;w 0 0 2 1;");
        y.stand(0, 2);
        y.stand(1, 2);
        due("both are caught", 2, y.minute());
        due("one has it", 1, y.now(5));
    }

    // To STAND n (1 .. 30) minutes more: how many then. BAD
    private static void minutesToStand() {
        WheelTown x = town("s 9 20;w 5 0 0 0;w 9 0 0 0;");
        dueOfAll("stand", BAD, () -> x.stand(0, 0), () -> x.stand(0, 31), () -> x.stand(0, -1),
            () -> x.stand(0, Integer.MAX_VALUE), () -> x.stand(0, Integer.MIN_VALUE), () -> x.stand(-1, 1),
            () -> x.stand(2, 1), () -> x.stand(Integer.MAX_VALUE, 1), () -> x.stand(Integer.MIN_VALUE, 1));
        due("1", 1, x.stand(0, 1));
        due("2", 3, x.stand(0, 2));
        due("29", 32, x.stand(0, 29));
        due("30", 62, x.stand(0, 30));
        due("the last wagon", 30, x.stand(1, 30));
        due("of none", BAD, new WheelTown().stand(0, 1));
    }

    // STATE: .. or it were more than 99
    private static void ninetyNineAtMost() {
        WheelTown x = town("s 9 20;w 5 0 0 0;");
        stand(x, 0, 70);
        due("30 to 70", STATE, x.stand(0, 30));
        due("70 still", 70, x.wagon(0, 5));
        due("29 to 70", 99, x.stand(0, 29));
        due("1 to 99", STATE, x.stand(0, 1));
        x.undo();
        due("28 to 70", 98, x.stand(0, 28));
        due("2 to 98", STATE, x.stand(0, 2));
        due("1 to 98", 99, x.stand(0, 1));
        x.minute();
        due("2 to 98", STATE, x.stand(0, 2));
        due("1 to 98", 99, x.stand(0, 1));
        due("BAD ahead of STATE", BAD, x.stand(0, 31));
        due("BAD ahead of STATE", BAD, x.stand(0, 0));
    }

    // STATE: it is CAUGHT
    private static void standOfACaughtOne() {
        WheelTown x = townAfter(1, "s 1 1;w 0 3 0 0;w 20 0 0 0;");
        due("of a caught one", STATE, x.stand(0, 1));
        due("of a caught one", STATE, x.stand(0, 30));
        due("BAD ahead of STATE", BAD, x.stand(0, 31));
        due("BAD ahead of STATE", BAD, x.stand(0, 0));
        due("of the other", 1, x.stand(1, 1));
        x.undo();
        x.undo();
        due("ahead of that", 1, x.stand(0, 1));
    }

    // change: To a RAIL: which it was on. BAD
    private static void railsToChangeTo() {
        WheelTown x = town("s 9 20;p 5;w 5 0 0 0;w 5 0 0 1;");
        dueOfAll("change", BAD, () -> x.change(0, -1), () -> x.change(0, 3), () -> x.change(0, Integer.MAX_VALUE),
            () -> x.change(0, Integer.MIN_VALUE), () -> x.change(-1, 2), () -> x.change(2, 2),
            () -> x.change(Integer.MAX_VALUE, 2), () -> x.change(Integer.MIN_VALUE, 2));
        due("0 to 2", 0, x.change(0, 2));
        due("1 to 0", 1, x.change(1, 0));
        due("2 to 1", 2, x.change(0, 1));
        due("its rail", 1, x.wagon(0, 3));
        due("the other's", 0, x.wagon(1, 3));
        dueWagon("nothing else", x, 0, 5, 1, 0, 0);
        due("of none", BAD, new WheelTown().change(0, 0));
    }

    // STATE: .. not at POINTS
    private static void changeAtPointsAlone() {
        WheelTown x = town("r 4;s 9 20;p 0;w 3 0 0 0;");
        due("one ahead of points", STATE, x.change(0, 1));
        x.minute();
        due("at points, round", 0, x.change(0, 1));
        x.minute();
        due("one behind points", STATE, x.change(0, 2));
        due("its rail", 1, x.wagon(0, 3));
        due("no points at all", STATE, town("w 0 0 0 0;").change(0, 1));
        due("the last place of 12", 0, town("r 12;p 11;w 11 0 0 0;").change(0, 1));
        due("the one ahead of it", STATE, town("r 12;p 11;w 10 0 0 0;").change(0, 1));
        due("BAD ahead of STATE", BAD, town("w 0 0 0 0;").change(0, 3));
    }

    // STATE: .. on that RAIL
    private static void changeToItsOwnRail() {
        for (int rail = 0; rail < 3; rail++) {
            WheelTown x = town("p 5;w 5 0 0 " + rail + ";");
            due("its own rail", STATE, x.change(0, rail));
            due("another", rail, x.change(0, (rail + 1) % 3));
            due("its own rail then", STATE, x.change(0, (rail + 1) % 3));
            due("and back", (rail + 1) % 3, x.change(0, rail));
        }
    }

    // STATE: .. or a WAGON is there (no WAGON of its WAY on that)
    private static void changeToWhereAWagonIs() {
        WheelTown x = town("r 4;s 9 20;p 0;w 4 0 0 0;w 4 0 0 1;w 0 0 0 2;w 8 0 0 2;w 5 0 0 2;");
        due("one of its WAY", STATE, x.change(0, 1));
        due("one of its WAY", STATE, x.change(1, 0));
        due("none of its WAY: of its PLACE alone, or next to it", 0, x.change(0, 2));
        due("then it is free", 1, x.change(1, 0));
    }

    // STATE: it is CAUGHT
    private static void changeOfACaughtOne() {
        WheelTown x = townAfter(1, "s 1 1;p 0;w 0 3 0 0;w 8 3 0 0;");
        due("of a caught one", STATE, x.change(0, 1));
        due("BAD ahead of STATE", BAD, x.change(0, 3));
        due("of the other", 0, x.change(1, 1));
        x.undo();
        x.undo();
        due("ahead of that", 0, x.change(0, 1));
    }

    // UNDONE: the latest order or MINUTE (10 are known, older ones are lost)
    private static void tenAreKnown() {
        for (int orders = 0; orders <= 13; orders++) {
            WheelTown x = town("s 9 20;w 0 0 0 0;");
            for (int i = 0; i < orders; i++) {
                x.stand(0, i + 1 > 7 ? 1 : 2);
            }
            int known = Math.min(10, orders);
            due("known of " + orders, known, x.count(3));
            for (int i = known - 1; i >= 0; i--) {
                due("undo, of " + orders, i, x.undo());
                due("count(3), of " + orders, i, x.count(3));
            }
            due("none more, of " + orders, STATE, x.undo());
            due("the older ones stay, of " + orders, 2 * Math.max(0, orders - 10), x.wagon(0, 5));
        }
        // Minutes, orders to STAND and changes all are.
        WheelTown y = town("s 9 20;p 0;w 0 3 0 0;");
        for (int i = 0; i < 4; i++) {
            y.minute();
            due("known", Math.min(10, 3 * i + 1), y.count(3));
            y.stand(0, 1);
            due("known", Math.min(10, 3 * i + 2), y.count(3));
            y.change(0, 1 + i % 2);
            due("known", Math.min(10, 3 * i + 3), y.count(3));
        }
        // After one is taken back there is room for one more, and no older one comes again.
        due("nine", 9, y.undo());
        y.minute();
        due("ten", 10, y.count(3));
        y.minute();
        due("ten", 10, y.count(3));
    }

    // UNDONE: how many more may be. STATE: none
    private static void noneToBeUndone() {
        WheelTown x = new WheelTown();
        due("a new object", STATE, x.undo());
        world(x, "w 0 0 0 0;");
        due("a new town", STATE, x.undo());
        x.minute();
        due("one", 0, x.undo());
        due("none more", STATE, x.undo());
        x.minute();
        x.minute();
        world(x, "w 0 0 0 0;");
        due("a town read anew", STATE, x.undo());
        due("MINUTE", 0, x.now(0));
    }

    // all is as ahead of it
    private static void allIsAsAheadOfIt() {
        WheelTown x = town("s 1 2;p 0;c 1 3;w 0 2 1 0;w 8 0 2 1;");
        String[] sights = new String[11];
        for (int i = 0; i <= 10; i++) {
            sights[i] = sight(x);
            if (i % 5 == 1) {
                x.stand(1, 3);
            } else if (i == 2) {
                x.change(0, 2);
            } else {
                x.minute();
            }
        }
        // The first of the eleven is lost.
        for (int i = 10; i >= 1; i--) {
            x.undo();
            dueAlike("undo", sights[i], sight(x));
        }
        due("the first is lost", STATE, x.undo());
        dueAlike("nothing changes", sights[1], sight(x));
    }

    private static String sight(WheelTown x) {
        StringBuilder sight = new StringBuilder();
        for (int w = 0; w < 2; w++) {
            for (int what : new int[] {0, 3, 4, 5, 6, 7}) {
                sight.append(x.wagon(w, what)).append(' ');
            }
        }
        return sight.append(x.now(0)).append(' ').append(x.now(4)).toString();
    }

    // What is refused, asked, typed, marked or kept is no order
    private static void whatIsNoOrder() {
        WheelTown x = town("s 9 20;w 0 0 0 0;");
        x.stand(0, 31);
        x.stand(1, 1);
        x.change(0, 1);
        x.change(0, 0);
        x.type('p');
        x.clear();
        x.mark(1, 0);
        x.keep(0);
        x.behind(60, 0, 0);
        x.starts(-1);
        x.stands(0);
        due("none", 0, x.count(3));
        x.back(0);
        due("none", 0, x.count(3));
        due("none", STATE, x.undo());
    }
}
