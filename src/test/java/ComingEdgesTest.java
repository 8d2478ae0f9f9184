/** Each bound on what comes (the document's part 3, promises 13 to 22): inside, at it, outside. */
public final class ComingEdgesTest extends TownTest {
    public static void main(String[] args) {
        behindSixtyMinutes();
        behindByNowAndWhatIsOrdered();
        caughtBehindOneToSixty();
        caughtOneMoreThanNow();
        caughtOfSeveralTheLeast();
        waitsBehindOneToSixty();
        waitsAsItIsReached();
        standsUpToThirty();
        standsUpToNinetyNine();
        standsBehindForty();
        standsTheMost();
        standsByNoNumber();
        standsOfWhichWagons();
        standsWithoutTheStarts();
        startsOfThoseThatLack();
        startsOfThreeAtMost();
        startsFromNoughtToSix();
        startsBehindForty();
        startsLeastTogether();
        startsOfTheFirstNumbers();
        startsOfWhichWagons();
        startsThereAreNone();
        barsThereAreStarts();
        barsTheFirst();
        barsNone();
        piecesUpToSixty();
        piecesOfRails();
        piecesTheMost();
        metUpToNinetyNine();
        metNotCaught();
        metFromTheBeginning();
        oddsOfTenths();
        oddsOfMinutes();
        oddsInLeastTerms();
        oddsAlone();
        oddsOfACaughtOne();
        keepUpToTwenty();
        keepAtLeastTenths();
        keepNotEvenNone();
        keepOfACaughtOne();
        end();
    }

    // BEHIND n (0 .. 60) minutes: WAY, whether it is CAUGHT. BAD
    private static void behindSixtyMinutes() {
        WheelTown x = town("s 9 20;w 0 0 0 0;w 20 1 0 1;");
        for (int n : new int[] {0, 1, 59, 60}) {
            due("behind " + n, n, x.behind(n, 0, 0));
            due("behind " + n, 20 + n / 2, x.behind(n, 1, 0));
            due("behind " + n, 0, x.behind(n, 0, 1));
        }
        dueOfAll("behind", BAD, () -> x.behind(-1, 0, 0), () -> x.behind(61, 0, 0),
            () -> x.behind(Integer.MIN_VALUE, 0, 0), () -> x.behind(Integer.MAX_VALUE, 0, 0),
            () -> x.behind(0, -1, 0), () -> x.behind(0, 2, 0), () -> x.behind(0, Integer.MIN_VALUE, 0),
            () -> x.behind(0, Integer.MAX_VALUE, 0), () -> x.behind(0, 0, -1), () -> x.behind(0, 0, 2),
            () -> x.behind(0, 0, Integer.MIN_VALUE), () -> x.behind(0, 0, Integer.MAX_VALUE));
        due("of none", BAD, new WheelTown().behind(0, 0, 0));
        // Caught in the 60th minute, not in the 59th.
        WheelTown y = town("s 3 20;w 0 0 0 0;");
        stand(y, 0, 99);
        due("behind 59", 0, y.behind(59, 0, 1));
        due("behind 60", 1, y.behind(60, 0, 1));
        due("behind 0", 0, y.behind(0, 0, 1));
    }

    // (From NOW on, if nothing more is ordered; nothing is changed.)
    private static void behindByNowAndWhatIsOrdered() {
        WheelTown x = town("r 6;s 2 3;c 1 3;b 4;w 0 0 4 0;w 2 1 2 0;w 1 0 0 1;");
        x.stand(2, 2);
        x.minute();
        WheelTown twin = town("r 6;s 2 3;c 1 3;b 4;w 0 0 4 0;w 2 1 2 0;w 1 0 0 1;");
        twin.stand(2, 2);
        twin.minute();
        for (int n = 0; n <= 30; n++) {
            for (int w = 0; w < 3; w++) {
                due("behind " + n + " WAY of " + w, twin.wagon(w, 0), x.behind(n, w, 0));
                due("behind " + n + " CAUGHT of " + w, twin.wagon(w, 7), x.behind(n, w, 1));
            }
            twin.minute();
        }
        due("nothing is changed", 1, x.now(0));
        due("nothing is changed", 2, x.count(3));
    }

    // FIRST CAUGHT: behind the fewest minutes (1 .. 60)
    private static void caughtBehindOneToSixty() {
        // It stands at WAY 20, as THE SUN comes to it in MINUTE 60.
        WheelTown sixty = town("s 2 10;w 20 0 0 0;");
        stand(sixty, 0, 99);
        due("behind 60", 60, sixty.caught(0));
        due("which", 0, sixty.caught(1));
        // At WAY 21 from MINUTE 1 on, THE SUN there in MINUTE 62.
        WheelTown more = townAfter(1, "s 2 10;w 20 0 0 0;");
        stand(more, 0, 99);
        due("behind 61", NONE, more.caught(0));
        due("which", NONE, more.caught(1));
        more.minute();
        due("behind 60, a minute later", 60, more.caught(0));
        WheelTown less = townAfter(1, "s 2 10;w 19 0 0 0;");
        stand(less, 0, 99);
        due("behind 59", 59, less.caught(0));
        due("behind 1", 1, town("s 1 1;w 0 1 0 0;").caught(0));
        due("behind 2", 2, town("s 1 1;w 1 3 0 0;").caught(0));
        due("of none", NONE, new WheelTown().caught(0));
        dueOfAll("caught", BAD, () -> less.caught(-1), () -> less.caught(2), () -> less.caught(Integer.MIN_VALUE),
            () -> less.caught(Integer.MAX_VALUE), () -> new WheelTown().caught(2));
    }

    // .. in which one more is than NOW
    private static void caughtOneMoreThanNow() {
        WheelTown x = town("s 1 1;w 5 3 0 0;w 0 3 0 0;w 20 0 0 0;");
        due("1 first", 1, x.caught(0));
        due("which", 1, x.caught(1));
        x.minute();
        due("1 is caught", 2, x.now(4));
        due("0 in MINUTE 7, THE SUN at 6", 6, x.caught(0));
        due("which", 0, x.caught(1));
        pass(x, 6);
        due("0 and 1 are caught", 3, x.now(4));
        due("nobody more", NONE, x.caught(0));
        due("nobody more", NONE, x.caught(1));
    }

    // which, of several the least
    private static void caughtOfSeveralTheLeast() {
        WheelTown x = town("s 1 1;w 20 0 0 0;w 0 3 0 2;w 0 3 0 0;w 0 3 0 1;");
        due("three in one minute", 1, x.caught(0));
        due("the least", 1, x.caught(1));
        due("the earlier, though its number is greater", 1, town("s 1 1;w 1 3 0 0;w 0 3 0 1;").caught(1));
        due("the last", 4, town("s 1 1;w 5 0 0 0;w 6 0 0 0;w 7 0 0 0;w 8 0 0 0;w 0 3 0 0;").caught(1));
    }

    // FIRST that WAITS: behind how many (1 .. 60)
    private static void waitsBehindOneToSixty() {
        for (int stood = 57; stood <= 60; stood++) {
            WheelTown x = town("s 9 20;w 0 0 0 0;w 1 0 0 0;");
            stand(x, 0, stood);
            stand(x, 1, 99);
            due("behind " + (stood + 1), stood < 60 ? stood + 1 : NONE, x.waits(0));
            due("which", stood < 60 ? 0 : NONE, x.waits(1));
        }
        due("behind 1", 1, town("s 9 20;w 0 0 0 0;w 1 3 0 0;").waits(0));
        due("behind 2", 2, town("s 9 20;w 0 1 0 0;w 1 3 0 0;").waits(0));
        due("of one alone", NONE, town("s 9 20;w 0 0 0 0;").waits(0));
        due("of none", NONE, new WheelTown().waits(0));
        due("of none", NONE, new WheelTown().waits(1));
        // That one waits in the minute that is gone by is not asked.
        WheelTown y = town("s 9 20;w 0 0 0 0;w 1 1 0 0;");
        due("behind 1", 1, y.waits(0));
        y.minute();
        due("0 waited", 0, y.wagon(0, 4));
        due("in minute 2 both come on, in minute 3 it waits again", 2, y.waits(0));
        dueOfAll("waits", BAD, () -> y.waits(-1), () -> y.waits(2), () -> y.waits(Integer.MIN_VALUE),
            () -> y.waits(Integer.MAX_VALUE), () -> new WheelTown().waits(2));
    }

    // which (as it is reached in that minute)
    private static void waitsAsItIsReached() {
        WheelTown x = town("s 9 20;w 0 0 0 0;w 1 3 0 0;w 5 0 0 0;w 6 3 0 0;");
        due("both in minute 1", 1, x.waits(0));
        due("that with the greatest WAY", 2, x.waits(1));
        WheelTown y = town("s 9 20;b 2;w 2 3 0 0;w 1 0 0 2;w 1 0 0 1;");
        due("both in minute 1", 1, y.waits(0));
        due("of several the least number", 1, y.waits(1));
        // Who is reached in the minute 1, though one further ahead is in minute 2.
        due("the earlier minute", 0, town("s 9 20;w 0 0 0 0;w 1 3 0 0;w 5 1 0 0;w 6 3 0 0;").waits(1));
    }

    // STANDS: the most minutes more (0 .. 30 ..)
    private static void standsUpToThirty() {
        due("30 at most", 30, town("s 9 20;w 20 0 0 0;").stands(0));
        // It stands at WAY 1, THE SUN there in MINUTE 2 * (LEAD + 1), one minute ahead of which it may come on.
        due("29", 29, town("s 2 14;w 1 0 0 0;").stands(0));
        due("31 were safe", 30, town("s 2 15;w 1 0 0 0;").stands(0));
        // It may stand no minute: THE SUN comes on by its own pace.
        due("0", 0, town("s 1 1;w 0 0 0 0;").stands(0));
        due("1", 1, town("s 1 1;w 1 0 0 0;").stands(0));
    }

    // (.. 99 at most with those it has)
    private static void standsUpToNinetyNine() {
        int[][] all = {{68, 30}, {69, 30}, {70, 29}, {71, 28}, {98, 1}, {99, 0}};
        for (int[] row : all) {
            WheelTown x = town("s 9 20;w 20 0 0 0;");
            stand(x, 0, row[0]);
            due("with " + row[0], row[1], x.stands(0));
        }
        // Those that others have don't count.
        WheelTown y = town("s 9 20;w 20 0 0 0;w 20 0 0 1;");
        stand(y, 1, 99);
        due("the other's", 30, y.stands(0));
    }

    // so that behind 40 minutes none is CAUGHT that is not NOW
    private static void standsBehindForty() {
        WheelTown caught39 = townAfter(1, "s 2 10;w 9 0 0 0;");
        stand(caught39, 0, 60);
        due("caught behind 39", 39, caught39.caught(0));
        due("caught behind 39", NONE, caught39.stands(0));
        WheelTown caught40 = town("s 2 10;w 10 0 0 0;");
        stand(caught40, 0, 60);
        due("caught behind 40", 40, caught40.caught(0));
        due("caught behind 40", NONE, caught40.stands(0));
        WheelTown caught41 = townAfter(1, "s 2 10;w 10 0 0 0;");
        stand(caught41, 0, 60);
        due("caught behind 41", 41, caught41.caught(0));
        due("caught behind 41", 30, caught41.stands(0));
        // Who is CAUGHT NOW doesn't count.
        WheelTown x = townAfter(1, "s 1 1;w 0 3 0 1;w 20 0 0 0;");
        due("0 is caught", 1, x.now(4));
        due("the other", 20, x.stands(1));
    }

    // the most
    private static void standsTheMost() {
        // 1 has to wait at the bridge for 0 and is caught, but for those stands of 0 that let it by.
        String text = "r4;s 2 3;b3;w 4 1 6 0;w 5 2 4 1;";
        WheelTown x = town(text);
        int most = x.stands(0);
        due("without an order 1 is caught", 1, x.caught(1));
        due("some are safe", 1, most > 0 ? 1 : 0);
        for (int n = 1; n <= 30; n++) {
            WheelTown twin = town(text);
            twin.stand(0, n);
            int first = twin.caught(0);
            boolean safe = first == NONE || first > 40;
            due("no more than " + most + " are safe: " + n, n == most ? 1 : 0, safe && n >= most ? 1 : 0);
        }
    }

    // NONE: by no number of them
    private static void standsByNoNumber() {
        due("itself", NONE, town("s 1 1;w 0 1 0 0;").stands(0));
        due("another", NONE, town("s 1 1;w 0 1 0 0;w 20 0 0 1;").stands(1));
        // What is ordered already is not taken back.
        WheelTown two = town("s 1 1;w 1 0 0 0;");
        two.stand(0, 1);
        due("one of one", 0, two.stands(0));
        two.stand(0, 1);
        due("two of one", NONE, two.stands(0));
        due("one behind it", 0, town("s 1 1;w 0 0 0 0;w 1 0 0 0;").stands(1));
    }

    // stands: BAD; STATE: it is CAUGHT
    private static void standsOfWhichWagons() {
        WheelTown x = townAfter(1, "s 1 1;w 0 3 0 0;w 20 0 0 0;");
        dueOfAll("stands", BAD, () -> x.stands(-1), () -> x.stands(2), () -> x.stands(Integer.MIN_VALUE),
            () -> x.stands(Integer.MAX_VALUE), () -> new WheelTown().stands(0));
        due("of a caught one", STATE, x.stands(0));
        due("of the last", 20, x.stands(1));
    }

    // STANDS: that WAGON alone is ordered; what STARTS asked for is not
    private static void standsWithoutTheStarts() {
        WheelTown x = town("s 2 1;w 0 0 8 0;w 20 0 9 1;");
        due("no starts", NONE, x.starts(-1));
        due("stands(1)", 30, x.stands(1));
        due("stands(0)", 1, x.stands(0));
        due("0 bars", 0, x.bars());
        due("stands(1)", 30, x.stands(1));
        due("stands(0)", 1, x.stands(0));
    }

    // STARTS: each .. whose DONE and minutes to STAND together are less than its WORK LACKS the rest
    private static void startsOfThoseThatLack() {
        // At WAY 1, one ahead of THE SUN's next step, it may stand one minute and no more.
        due("WORK 0", 0, town("s 1 1;w 1 0 0 0;").starts(-1));
        due("WORK 1", 0, town("s 1 1;w 1 0 1 0;").starts(-1));
        due("WORK 2", NONE, town("s 1 1;w 1 0 2 0;").starts(-1));
        for (int work = 0; work <= 2; work++) {
            WheelTown ordered = town("s 1 1;w 1 0 " + work + " 0;");
            ordered.stand(0, 1);
            due("WORK " + work + ", 1 to STAND", work < 2 ? 0 : NONE, ordered.starts(-1));
            ordered.minute();
            due("WORK " + work + ", 1 DONE", work < 2 ? 0 : NONE, ordered.starts(-1));
        }
        // Two may be: one DONE, one to STAND.
        for (int work = 1; work <= 3; work++) {
            WheelTown both = town("s 1 1;w 2 0 " + work + " 0;");
            both.stand(0, 2);
            both.minute();
            due("WORK " + work + ", 1 DONE and 1 to STAND", work < 3 ? 0 : NONE, both.starts(-1));
        }
    }

    // (up to three of them, those with the least numbers); others go on as they are
    private static void startsOfThreeAtMost() {
        String late = "w 0 0 9 0;";
        String well = "w 20 0 1 0;";
        due("the first", NONE, town("s 2 1;" + late).starts(-1));
        due("the second", NONE, town("s 2 1;" + well + late).starts(-1));
        due("the third", NONE, town("s 2 1;" + well + "w 20 0 1 1;" + late).starts(-1));
        due("not the fourth", 0, town("s 2 1;" + well + "w 20 0 1 1;w 20 0 1 2;" + late).starts(-1));
        due("the fourth has no start", 0, town("s 2 1;" + well + "w 20 0 1 1;w 20 0 1 2;" + late).starts(3));
        // One without WORK is none of the three.
        due("the third behind one that lacks nothing", NONE, town("s 2 1;w 19 0 0 0;" + well + "w 20 0 1 1;" + late).starts(-1));
        due("not the fourth behind one", 0, town("s 2 1;w 19 0 0 0;" + well + "w 20 0 1 1;w 20 0 1 2;" + late).starts(-1));
        // Nor is one that is CAUGHT.
        WheelTown x = townAfter(1, "s 1 1;w 0 3 9 2;w 20 0 1 0;w 20 0 1 1;w 3 0 9 0;");
        due("0 is caught", 1, x.now(4));
        due("the third behind one that is caught", NONE, x.starts(-1));
    }

    // behind s (0 .. 6) minutes
    private static void startsFromNoughtToSix() {
        // From WAY s it stands up to minute s + WORK, THE SUN then at (s + WORK) / 2 - 1.
        int[][] all = {{0, 0}, {1, 0}, {2, 1}, {3, 2}, {4, 3}, {5, 4}, {6, 5}, {7, 6}, {8, NONE}, {9, NONE}};
        for (int[] row : all) {
            WheelTown x = town("s 2 1;w 0 0 " + row[0] + " 0;");
            due("WORK " + row[0], row[1], x.starts(0));
            due("WORK " + row[0], row[1], x.starts(-1));
        }
        WheelTown three = town("s 2 1;w 0 0 7 0;w 0 0 7 1;w 0 0 7 2;");
        due("the greatest sum", 18, three.starts(-1));
        for (int w = 0; w < 3; w++) {
            due("each as late as may be", 6, three.starts(w));
        }
    }

    // by which behind 40 minutes none is CAUGHT that is not NOW
    private static void startsBehindForty() {
        for (int minutes = 0; minutes <= 2; minutes++) {
            // THE SUN comes to where it stands in MINUTE 42 (at WAY 11 from MINUTE 1 on) or in 40 (at WAY 10).
            WheelTown x = townAfter(minutes > 0 ? 1 : 0, "s 2 10;w 10 0 0 0;w 20 0 1 1;");
            stand(x, 0, 90);
            if (minutes == 2) {
                x.minute();
            }
            due("caught behind", minutes == 1 ? 41 : 40, x.caught(0));
            due("starts", minutes == 1 ? 0 : NONE, x.starts(-1));
            due("starts", minutes == 1 ? 0 : NONE, x.starts(1));
        }
    }

    // those that are least together
    private static void startsLeastTogether() {
        WheelTown x = town("s 2 1;w 0 0 3 0;w 0 0 4 1;w 0 0 5 2;");
        due("2, 3, 4", 9, x.starts(-1));
        due("0", 2, x.starts(0));
        due("1", 3, x.starts(1));
        due("2", 4, x.starts(2));
        // If 0 stands at once, 1 behind it is held up and has to start so much later.
        WheelTown y = town("s 3 2;w 1 0 1 0;w 0 0 6 0;");
        due("least", 2, y.starts(-1));
    }

    // of several the first (by WAGONS' numbers)
    private static void startsOfTheFirstNumbers() {
        WheelTown x = town("s 3 2;w 1 0 1 0;w 0 0 6 0;");
        due("0 and 2, not 1 and 1", 0, x.starts(0));
        due("0 and 2, not 1 and 1", 2, x.starts(1));
        WheelTown turned = town("s 3 2;w 0 0 6 0;w 1 0 1 0;");
        due("by numbers: 1 and 1, not 2 and 0", 1, turned.starts(0));
        due("by numbers: 1 and 1, not 2 and 0", 1, turned.starts(1));
    }

    // the sum (w = -1), the start of a WAGON (0, if it is not one of these); NONE. BAD
    private static void startsOfWhichWagons() {
        WheelTown x = townAfter(1, "s 1 1;w 0 3 9 0;w 20 0 9 0;w 20 0 0 1;");
        due("the sum", 0, x.starts(-1));
        due("of a caught one", 0, x.starts(0));
        due("of one that lacks", 0, x.starts(1));
        due("of one without WORK", 0, x.starts(2));
        dueOfAll("starts", BAD, () -> x.starts(-2), () -> x.starts(3), () -> x.starts(Integer.MIN_VALUE),
            () -> x.starts(Integer.MAX_VALUE), () -> new WheelTown().starts(0), () -> new WheelTown().starts(-2));
        due("the sum of none", 0, new WheelTown().starts(-1));
    }

    // NONE
    private static void startsThereAreNone() {
        WheelTown x = town("s 2 1;w 0 0 8 0;w 20 0 0 1;");
        due("the sum", NONE, x.starts(-1));
        due("of one that lacks", NONE, x.starts(0));
        due("of one that lacks nothing", NONE, x.starts(1));
        due("BAD ahead of it", BAD, x.starts(2));
        due("also if nobody lacks", NONE, town("s 1 1;w 0 1 0 0;").starts(-1));
    }

    // BARS .. NONE (also if there are)
    private static void barsThereAreStarts() {
        due("there are", NONE, town("s 2 1;w 0 0 7 0;").bars());
        due("there are, with nobody that lacks", NONE, town("s 2 1;w 0 0 0 0;").bars());
        due("of none", NONE, new WheelTown().bars());
    }

    // if there are none: the first of these without whose order there would be
    private static void barsTheFirst() {
        due("the only one", 0, town("s 2 1;w 0 0 8 0;").bars());
        due("the second", 1, town("s 2 1;w 20 0 1 0;w 0 0 8 0;").bars());
        due("the third", 2, town("s 2 1;w 20 0 1 0;w 20 0 1 1;w 0 0 8 0;").bars());
        due("its number, not which of these", 4,
            town("s 2 1;w 20 0 1 0;w 19 0 0 0;w 20 0 1 1;w 18 0 0 0;w 0 0 8 0;").bars());
        // The others start as late as they have to.
        due("without the first, the second by 6", 0, town("s 2 1;w 0 0 8 0;w 0 0 7 1;").bars());
        due("without the second, the first by 6", 1, town("s 2 1;w 0 0 7 0;w 0 0 8 1;").bars());
        due("without the first, the others by 6", 0, town("s 2 1;w 0 0 8 0;w 0 0 7 1;w 0 0 7 2;").bars());
        due("without the second, the others by 6", 1, town("s 2 1;w 0 0 7 0;w 0 0 8 1;w 0 0 7 2;").bars());
        due("without the third, the others by 6", 2, town("s 2 1;w 0 0 7 0;w 0 0 7 1;w 0 0 8 2;").bars());
        // Without either there are, as with both there are none.
        String head = "s 2 1;b 5;";
        due("both", NONE, town(head + "w 4 1 8 1;w 3 1 6 0;").starts(-1));
        due("without the first", 1, town(head + "w 4 1 0 1;w 3 1 6 0;").starts(-1) == NONE ? 0 : 1);
        due("without the second", 1, town(head + "w 4 1 8 1;w 3 1 0 0;").starts(-1) == NONE ? 0 : 1);
        due("the first", 0, town(head + "w 4 1 8 1;w 3 1 6 0;").bars());
        due("the first by numbers", 0, town(head + "w 3 1 6 0;w 4 1 8 1;").bars());
    }

    // NONE
    private static void barsNone() {
        due("two bar", NONE, town("s 2 1;w 0 0 8 0;w 0 0 8 1;").bars());
        due("nobody is ordered", NONE, town("s 1 1;w 0 1 0 0;").bars());
        due("one that is not ordered is caught", NONE, town("s 1 1;w 0 1 0 0;w 20 0 1 1;").bars());
        // The fourth that lacks comes in for none of the three.
        due("the fourth is none of these", 0, town("s 2 1;w 0 0 8 0;w 20 0 1 1;w 20 0 1 2;w 1 0 9 0;").bars());
    }

    // PIECES for a RAIL by n (0 .. 60) minutes. BAD
    private static void piecesUpToSixty() {
        // The one ahead goes on, the one behind stands: one more each minute.
        WheelTown x = town("s 9 20;w 0 0 0 1;w 5 0 0 1;");
        stand(x, 0, 90);
        for (int n : new int[] {0, 1, 2, 59, 60}) {
            due("by " + n, 6 + n, x.pieces(1, n));
        }
        dueOfAll("pieces", BAD, () -> x.pieces(1, -1), () -> x.pieces(1, 61), () -> x.pieces(1, Integer.MIN_VALUE),
            () -> x.pieces(1, Integer.MAX_VALUE), () -> x.pieces(-1, 0), () -> x.pieces(3, 0),
            () -> x.pieces(Integer.MIN_VALUE, 0), () -> x.pieces(Integer.MAX_VALUE, 0));
    }

    // of WAYS from its last to its first WAGON, both too (0: none there)
    private static void piecesOfRails() {
        WheelTown x = town("s 9 20;w 0 0 0 0;w 20 0 0 0;w 7 0 0 2;");
        due("two", 21, x.pieces(0, 0));
        due("none", 0, x.pieces(1, 0));
        due("none", 0, x.pieces(1, 60));
        due("one", 1, x.pieces(2, 0));
        due("one", 1, x.pieces(2, 60));
        due("side by side on one rail", 2, town("w 3 0 0 1;w 4 0 0 1;").pieces(1, 0));
        due("one between them", 21, town("w 0 0 0 1;w 9 0 0 1;w 20 0 0 1;").pieces(1, 0));
        due("of none", 0, new WheelTown().pieces(2, 60));
    }

    // the most, by minutes NOW to then
    private static void piecesTheMost() {
        // The one ahead stands, the one behind comes on: the most is NOW.
        WheelTown x = town("s 9 20;w 0 0 0 0;w 9 0 0 0;");
        stand(x, 1, 9);
        due("NOW", 10, x.pieces(0, 0));
        due("still NOW's", 10, x.pieces(0, 9));
        // Each minute one less up to minute 8, then both go on.
        due("still NOW's", 10, x.pieces(0, 60));
        // Slow PLACES hold up the one ahead and then the one behind: the most so far, by a twin, minute by minute.
        WheelTown y = town("r 12;s 9 20;c 3 4;c 2 4;w 0 1 0 1;w 2 0 0 1;");
        int most = 0;
        WheelTown twin = town("r 12;s 9 20;c 3 4;c 2 4;w 0 1 0 1;w 2 0 0 1;");
        for (int n = 0; n <= 60; n++) {
            most = Math.max(most, twin.wagon(1, 0) - twin.wagon(0, 0) + 1);
            due("by " + n, most, y.pieces(1, n));
            twin.minute();
        }
        // A CAUGHT one is there, too.
        due("to a caught one", 70, town("s 1 1;w 0 3 0 0;w 9 0 0 0;").pieces(0, 60));
    }

    // MET: .. at a PLACE, fallen in MINUTE m (0 .. 99). BAD
    private static void metUpToNinetyNine() {
        WheelTown x = town("r 4;s 9 20;w 0 0 0 0;w 1 0 0 0;");
        due("met(0, 0)", 1, x.met(0, 0));
        due("met(1, 0)", 2, x.met(1, 0));
        due("met(1, 1)", 1, x.met(1, 1));
        due("met(2, 98)", 1, x.met(2, 98));
        due("met(3, 99)", 1, x.met(3, 99));
        due("met(0, 99)", 2, x.met(0, 99));
        due("met(2, 99)", 0, x.met(2, 99));
        dueOfAll("met", BAD, () -> x.met(0, -1), () -> x.met(0, 100), () -> x.met(0, Integer.MIN_VALUE),
            () -> x.met(0, Integer.MAX_VALUE), () -> x.met(-1, 0), () -> x.met(4, 0), () -> x.met(Integer.MIN_VALUE, 0),
            () -> x.met(Integer.MAX_VALUE, 0), () -> new WheelTown().met(8, 0), () -> town("r 12;").met(12, 0));
        due("the last place of 12", 1, town("r 12;w 11 0 0 0;").met(11, 0));
        due("the last place at first", 0, new WheelTown().met(7, 99));
        due("a round apart", 3, town("r 4;w 3 0 0 0;w 19 0 0 0;").met(3, 0));
        due("all five", 31, town("r 4;w 0 0 0 0;w 4 0 0 0;w 8 0 0 0;w 12 0 0 0;w 16 0 0 0;").met(0, 0));
    }

    // .. not CAUGHT
    private static void metNotCaught() {
        WheelTown x = town("r 4;s 1 1;w 2 3 0 0;w 10 3 0 0;");
        due("in MINUTE 2", 3, x.met(2, 2));
        due("in MINUTE 3 THE SUN is at 2", 2, x.met(2, 3));
        due("in MINUTE 4 the other has come on", 0, x.met(2, 4));
    }

    // counted from the beginning (as told, no orders)
    private static void metFromTheBeginning() {
        WheelTown x = town("r 4;s 9 20;p 0;w 0 0 0 0;");
        x.stand(0, 30);
        x.change(0, 1);
        pass(x, 5);
        due("in MINUTE 0", 1, x.met(0, 0));
        due("in MINUTE 1", 1, x.met(1, 1));
        due("in MINUTE 5", 1, x.met(1, 5));
        x.keep(0);
        x.back(0);
        due("no image changes it", 1, x.met(1, 5));
        due("but it stood", 0, x.wagon(0, 0));
    }

    // ODDS (x 0 .. 10 ..): stands by chance in each minute (x in 10)
    private static void oddsOfTenths() {
        // WAY 0, THE SUN at 0 in MINUTE 1: it has to go in each minute.
        WheelTown x = town("s 1 1;w 0 0 0 0;");
        int[][] once = {{0, 1, 1}, {1, 9, 10}, {2, 4, 5}, {3, 7, 10}, {4, 3, 5}, {5, 1, 2}, {6, 2, 5}, {7, 3, 10}, {8, 1, 5},
            {9, 1, 10}, {10, 0, 1}};
        for (int[] row : once) {
            due("upper of " + row[0], row[1], x.odds(0, row[0], 1, 0));
            due("lower of " + row[0], row[2], x.odds(0, row[0], 1, 1));
        }
        dueOfAll("odds", BAD, () -> x.odds(0, -1, 1, 0), () -> x.odds(0, 11, 1, 0), () -> x.odds(0, Integer.MIN_VALUE, 1, 0),
            () -> x.odds(0, Integer.MAX_VALUE, 1, 0), () -> x.odds(-1, 0, 0, 0), () -> x.odds(1, 0, 0, 0),
            () -> x.odds(Integer.MIN_VALUE, 0, 0, 0), () -> x.odds(Integer.MAX_VALUE, 0, 0, 0), () -> x.odds(0, 0, 0, -1),
            () -> x.odds(0, 0, 0, 2), () -> x.odds(0, 0, 0, Integer.MIN_VALUE), () -> x.odds(0, 0, 0, Integer.MAX_VALUE),
            () -> new WheelTown().odds(0, 0, 0, 0));
    }

    // (.. n 0 .. 12): that it is not CAUGHT behind n minutes
    private static void oddsOfMinutes() {
        WheelTown x = town("s 1 1;w 0 0 0 0;");
        long upper = 1;
        long lower = 1;
        for (int n = 0; n <= 12; n++) {
            due("upper of 9 in 10, " + n + " times", upper, x.odds(0, 1, n, 0));
            due("lower of 9 in 10, " + n + " times", lower, x.odds(0, 1, n, 1));
            upper *= 9;
            lower *= 10;
        }
        dueOfAll("odds", BAD, () -> x.odds(0, 1, -1, 0), () -> x.odds(0, 1, 13, 0), () -> x.odds(0, 1, Integer.MIN_VALUE, 0),
            () -> x.odds(0, 1, Integer.MAX_VALUE, 0));
        // THE SUN comes to WAY 0 in MINUTE 12, not in 11.
        WheelTown y = town("s 3 4;w 0 0 0 0;");
        due("behind 11", 1, y.odds(0, 10, 11, 0));
        due("behind 12", 0, y.odds(0, 10, 12, 0));
        due("behind 12, a place further", 1, town("s 3 4;w 1 0 0 0;").odds(0, 10, 12, 0));
        // From NOW on.
        y.minute();
        due("NOW behind 11", 1, y.odds(0, 10, 11, 1));
        // THE SUN is at 0 in MINUTE 2 and 3: who goes in MINUTE 3 alone was CAUGHT in MINUTE 2, for ever.
        WheelTown ever = town("s 2 1;w 0 0 0 0;");
        due("3 by 4, not 7 by 8", 3, ever.odds(0, 5, 3, 0));
        due("3 by 4, not 7 by 8", 4, ever.odds(0, 5, 3, 1));
    }

    // a fraction .. in least terms
    private static void oddsInLeastTerms() {
        WheelTown x = town("s 1 1;w 0 0 0 0;w 20 0 0 0;");
        due("nought is 0 by 1", 0, x.odds(0, 10, 12, 0));
        due("nought is 0 by 1", 1, x.odds(0, 10, 12, 1));
        due("one is 1 by 1", 1, x.odds(1, 10, 12, 0));
        due("one is 1 by 1", 1, x.odds(1, 10, 12, 1));
        due("one is 1 by 1, behind none", 1, x.odds(0, 10, 0, 0));
        due("one is 1 by 1, behind none", 1, x.odds(0, 10, 0, 1));
        due("2 to the 12th", 4096, x.odds(0, 5, 12, 1));
        due("2 to the 12th", 1, x.odds(0, 5, 12, 0));
        due("2 by 5, 12 times", 4096, x.odds(0, 6, 12, 0));
        due("2 by 5, 12 times", 244140625, x.odds(0, 6, 12, 1));
        due("1 by 10, 12 times", 1, x.odds(0, 9, 12, 0));
        due("1 by 10, 12 times", 1000000000000L, x.odds(0, 9, 12, 1));
    }

    // a WAGON alone (no others, no BRIDGE) from where it is with what is LEFT, not told to STAND
    private static void oddsAlone() {
        WheelTown x = town("s 1 2;b 1;w 0 0 0 0;w 1 3 0 0;w 1 3 0 1;");
        x.stand(0, 30);
        due("none is in its way", 1, x.odds(0, 0, 12, 0));
        due("nor to STAND", 1, x.odds(0, 0, 12, 1));
        // With none LEFT, as it waits, it comes on in the first minute in which it goes.
        WheelTown y = town("s 1 3;w 0 0 0 0;w 1 2 0 0;");
        pass(y, 2);
        due("none is LEFT", 0, y.wagon(0, 4));
        due("1 by 2", 1, y.odds(0, 5, 1, 0));
        due("1 by 2", 2, y.odds(0, 5, 1, 1));
        // One of two is LEFT: it has to go in one of two minutes, and two of two were.
        WheelTown z = townAfter(1, "s 1 3;w 0 1 0 0;");
        due("one LEFT", 1, z.wagon(0, 4));
        due("3 by 4", 3, z.odds(0, 5, 2, 0));
        due("3 by 4", 4, z.odds(0, 5, 2, 1));
        // As it comes to place 1 it has LEFT what that COSTS and its PACE: THE SUN is there in MINUTE 3.
        for (String slow : new String[] {"c 1 3;w 0 0 0 0;", "w 0 2 0 0;", "c 1 2;w 0 1 0 0;", "w 0 0 0 0;w 9 2 0 1;h 0 1;"}) {
            WheelTown late = town("s 1 2;" + slow);
            int minutes = late.wagon(0, 4);
            due("not caught behind 1: " + slow, 1, late.odds(0, 0, 1, 0));
            due("caught behind 3: " + slow, 0, late.odds(0, 0, 3, 0));
            due("as it is by minutes: " + slow, minutes > 2 ? 2 : 3, late.caught(0));
        }
        WheelTown two = town("s 1 2;w 0 1 0 0;");
        due("1 by 4", 1, two.odds(0, 5, 2, 0));
        due("1 by 4", 4, two.odds(0, 5, 2, 1));
    }

    // odds: BAD; STATE: it is CAUGHT
    private static void oddsOfACaughtOne() {
        WheelTown x = townAfter(1, "s 1 1;w 0 3 0 0;w 20 0 0 0;");
        due("STATE", STATE, x.odds(0, 0, 0, 0));
        due("STATE", STATE, x.odds(0, 10, 12, 1));
        dueOfAll("BAD ahead of STATE", BAD, () -> x.odds(0, 11, 0, 0), () -> x.odds(0, 0, 13, 0), () -> x.odds(0, 0, 0, 2),
            () -> x.odds(0, -1, 0, 0), () -> x.odds(0, 0, -1, 0), () -> x.odds(0, 0, 0, -1));
        due("of the other", 1, x.odds(1, 0, 0, 0));
    }

    // KEEP: how many PLACES less LEAD (0 .. 20: THE SUN nearer) .. the most
    private static void keepUpToTwenty() {
        // It stands at its WAY; THE SUN, d nearer, is at d - 20 in MINUTE 8 and at d - 19 in MINUTE 9.
        int[][] all = {{0, 8, 19}, {0, 9, 18}, {1, 8, 20}, {1, 9, 19}, {2, 9, 20}, {20, 12, 20}};
        for (int[] row : all) {
            due("at WAY " + row[0], row[2], town("s 9 20;w " + row[0] + " 0 0 0;").keepAhead(0, 10, row[1], 10));
        }
        // LEAD 2, at WAY 0 in MINUTE 1: THE SUN at -1.
        due("none", 0, town("s 1 2;w 0 0 0 0;").keepAhead(0, 10, 1, 10));
        due("one", 1, town("s 1 3;w 0 0 0 0;").keepAhead(0, 10, 1, 10));
        due("more than its LEAD", 19, town("s 1 1;w 20 0 0 0;").keepAhead(0, 10, 1, 10));
        due("behind none", 20, town("s 1 1;w 0 0 0 0;").keepAhead(0, 10, 0, 10));
    }

    // leaves these ODDS at c in 10 at least (x, n, c 0 .. 10)
    private static void keepAtLeastTenths() {
        // One nearer than 0 it has to go in MINUTE 1, which it does in 10 - x of 10.
        WheelTown x = town("s 1 2;w 0 0 0 0;");
        for (int c = 0; c <= 10; c++) {
            due("3 in 10 at " + c, c == 0 ? 20 : c <= 3 ? 1 : 0, x.keepAhead(0, 7, 1, c));
            due("10 in 10 at " + c, c == 0 ? 20 : 1, x.keepAhead(0, 0, 1, c));
            due("0 in 10 at " + c, c == 0 ? 20 : 0, x.keepAhead(0, 10, 1, c));
        }
        // 9 to the 12th by 10 to the 12th are less than 3 in 10 and more than 2.
        WheelTown y = town("s 1 1;w 0 0 0 0;");
        due("2 in 10", 0, y.keepAhead(0, 1, 12, 2));
        due("3 in 10", NONE, y.keepAhead(0, 1, 12, 3));
        dueOfAll("keepAhead", BAD, () -> x.keepAhead(0, 0, 0, -1), () -> x.keepAhead(0, 0, 0, 11),
            () -> x.keepAhead(0, 0, 0, Integer.MIN_VALUE), () -> x.keepAhead(0, 0, 0, Integer.MAX_VALUE),
            () -> x.keepAhead(0, 0, -1, 0), () -> x.keepAhead(0, 0, 13, 0), () -> x.keepAhead(0, 0, Integer.MIN_VALUE, 0),
            () -> x.keepAhead(0, 0, Integer.MAX_VALUE, 0), () -> x.keepAhead(0, -1, 0, 0), () -> x.keepAhead(0, 11, 0, 0),
            () -> x.keepAhead(0, Integer.MIN_VALUE, 0, 0), () -> x.keepAhead(0, Integer.MAX_VALUE, 0, 0),
            () -> x.keepAhead(-1, 0, 0, 0), () -> x.keepAhead(1, 0, 0, 0), () -> x.keepAhead(Integer.MIN_VALUE, 0, 0, 0),
            () -> x.keepAhead(Integer.MAX_VALUE, 0, 0, 0), () -> new WheelTown().keepAhead(0, 0, 0, 0));
        due("n 12", 20, x.keepAhead(0, 10, 12, 0));
        due("x 10, c 10", 0, x.keepAhead(0, 10, 1, 10));
    }

    // NONE: not even none
    private static void keepNotEvenNone() {
        WheelTown x = town("s 1 1;w 0 0 0 0;");
        due("3 in 10 are too few", NONE, x.keepAhead(0, 7, 1, 4));
        due("3 in 10 are enough", 0, x.keepAhead(0, 7, 1, 3));
        due("it is caught", NONE, x.keepAhead(0, 10, 12, 1));
        due("0 in 10 are enough", 20, x.keepAhead(0, 10, 12, 0));
    }

    // keepAhead: BAD; STATE: it is CAUGHT
    private static void keepOfACaughtOne() {
        WheelTown x = townAfter(1, "s 1 1;w 0 3 0 0;w 20 0 0 0;");
        due("STATE", STATE, x.keepAhead(0, 0, 0, 0));
        dueOfAll("BAD ahead of STATE", BAD, () -> x.keepAhead(0, 11, 0, 0), () -> x.keepAhead(0, 0, 13, 0),
            () -> x.keepAhead(0, 0, 0, 11), () -> x.keepAhead(0, -1, 0, 0), () -> x.keepAhead(0, 0, -1, 0),
            () -> x.keepAhead(0, 0, 0, -1));
        due("of the other", 20, x.keepAhead(1, 0, 0, 0));
    }
}
