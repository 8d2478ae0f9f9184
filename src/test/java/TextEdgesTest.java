/** Each bound on what the text may tell (the document's part 1, promises 1 to 5 and 8): inside, at it, outside. */
public final class TextEdgesTest extends TownTest {
    public static void main(String[] args) {
        placesOfTheRing();
        whatAPlaceCosts();
        placesThatAreNamed();
        eachOfTheSun();
        leadOfTheSun();
        waysOfTheSun();
        bridgeNoneAtFirst();
        numbersOfAWagon();
        fiveWagonsAtMost();
        noTwoOnOneRailHaveOneWay();
        fourPairsAtMost();
        pairsOfWagonsToldAhead();
        pairsUnlike();
        hitchedAlsoByOthers();
        bytesOfTheText();
        twoHundredBytes();
        blanksAre32();
        lettersSideBySide();
        digitsSideBySide();
        theRingIsFirst();
        costsToldAgain();
        sunAndBridgeOnce();
        pointsToldAgain();
        numbersAbove99();
        noughtAheadOfOthers();
        bytesThatBeginNone();
        textsThatEndTooEarly();
        theFirstFaultCounts();
        itemsThatAreNone();
        whatWasToldIsGone();
        wagonsOfAnotherTownAreGone();
        whatWasTypedIsGone();
        end();
    }

    private static void tells(String text, int items) {
        WheelTown x = new WheelTown();
        due("world() of '" + text + "'", items, world(x, text));
        due("bytes left of '" + text + "'", 0, x.count(4));
    }

    private static void faultAt(int at, String text) {
        WheelTown x = new WheelTown();
        due("world() of '" + text + "'", -10 - at, world(x, text));
        due("bytes left of '" + text + "'", text.length(), x.count(4));
    }

    // PLACES 0 .. n - 1 (n 4 .. 12; 8 at first)
    private static void placesOfTheRing() {
        faultAt(2, "r 0;");
        faultAt(2, "r 3;");
        faultAt(2, "r 13;");
        for (int n : new int[] {4, 5, 11, 12}) {
            WheelTown x = town("r " + n + ";");
            due("r " + n + ": n", n, x.now(1));
            due("r " + n + ": the first place", 1, x.place(0, 0));
            due("r " + n + ": the last place", 1, x.place(n - 1, 0));
            due("r " + n + ": no place n", BAD, x.place(n, 0));
            due("r " + n + ": no place -1", BAD, x.place(-1, 0));
        }
        WheelTown first = new WheelTown();
        due("at first: n", 8, first.now(1));
        due("at first: place 7", 1, first.place(7, 0));
        due("at first: no place 8", BAD, first.place(8, 0));
        WheelTown again = town("r 12;");
        due("not told again", 1, world(again, "p 0;"));
        due("8, if it is not told", 8, again.now(1));
        due("no place 8", BAD, again.place(8, 0));
    }

    // each COSTS minutes (1 .. 4; 1 at first)
    private static void whatAPlaceCosts() {
        faultAt(4, "c 0 0;");
        faultAt(4, "c 0 5;");
        for (int minutes = 1; minutes <= 4; minutes++) {
            WheelTown x = town("c 6 " + minutes + ";");
            due("c 6 " + minutes, minutes, x.place(6, 0));
            due("the one ahead stays", 1, x.place(5, 0));
            due("the one behind stays", 1, x.place(7, 0));
        }
        WheelTown again = town("r 12;c 11 4;c 0 4;");
        world(again, "r 12;");
        due("1, if it is not told", 1, again.place(11, 0));
        due("1, if it is not told", 1, again.place(0, 0));
    }

    // c, b, p name a PLACE 0 .. n - 1, of the ring that was told or of 8
    private static void placesThatAreNamed() {
        String[] rings = {"r 4;", "r 5;", "", "r 11;", "r 12;"};
        int[] sizes = {4, 5, 8, 11, 12};
        for (int i = 0; i < rings.length; i++) {
            int n = sizes[i];
            int at = rings[i].length() + 2;
            int items = rings[i].isEmpty() ? 1 : 2;
            for (String item : new String[] {"c # 2;", "b #;", "p #;"}) {
                tells(rings[i] + item.replace("#", "0"), items);
                tells(rings[i] + item.replace("#", "" + (n - 1)), items);
                faultAt(at, rings[i] + item.replace("#", "" + n));
            }
            WheelTown x = town(rings[i] + "c " + (n - 1) + " 3;p " + (n - 1) + ";b " + (n - 1) + ";");
            due("c of the last place", 3, x.place(n - 1, 0));
            due("p of the last place", 1, x.place(n - 1, 1));
            due("b of the last place", 1, x.place(n - 1, 2));
            due("p not of the one ahead", 0, x.place(n - 2, 1));
            due("b not of the one ahead", 0, x.place(n - 2, 2));
        }
    }

    // EACH (1 .. 9 minutes a PLACE; 3 at first)
    private static void eachOfTheSun() {
        faultAt(2, "s 0 1;");
        faultAt(2, "s 10 1;");
        for (int each : new int[] {1, 2, 8, 9}) {
            WheelTown x = town("s " + each + " 7;");
            due("EACH", each, x.now(2));
            due("a minute ahead of its first step", -7, x.sun(each - 1));
            due("its first step", -6, x.sun(each));
        }
        WheelTown again = town("s 9 20;");
        world(again, "p 0;");
        due("EACH, if it is not told", 3, again.now(2));
    }

    // LEAD (1 .. 20; 5 at first)
    private static void leadOfTheSun() {
        faultAt(4, "s 1 0;");
        faultAt(4, "s 1 21;");
        for (int lead : new int[] {1, 2, 19, 20}) {
            WheelTown x = town("s 4 " + lead + ";");
            due("LEAD", lead, x.now(3));
            due("THE SUN in MINUTE 0", -lead, x.sun(0));
        }
        WheelTown again = town("s 9 20;");
        world(again, "p 0;");
        due("LEAD, if it is not told", 5, again.now(3));
    }

    // in MINUTE t its WAY is t by EACH (cut) less LEAD; t 0 .. 1100; NO: BAD
    private static void waysOfTheSun() {
        WheelTown x = new WheelTown();
        int[][] ways = {{0, -5}, {1, -5}, {2, -5}, {3, -4}, {5, -4}, {6, -3}, {14, -1}, {15, 0}, {16, 0}, {17, 0}, {18, 1},
            {1097, 360}, {1098, 361}, {1099, 361}, {1100, 361}};
        for (int[] row : ways) {
            due("sun(" + row[0] + ")", row[1], x.sun(row[0]));
        }
        dueOfAll("sun", NO, () -> x.sun(-1), () -> x.sun(1101), () -> x.sun(-3), () -> x.sun(Integer.MIN_VALUE),
            () -> x.sun(Integer.MAX_VALUE));
        due("of the slowest", 102, town("s 9 20;").sun(1100));
        due("of the fastest", 1099, town("s 1 1;").sun(1100));
        pass(x, 20);
        due("by the MINUTE asked, not NOW", -5, x.sun(0));
    }

    // BRIDGE: a PLACE (none at first). POINTS: PLACES
    private static void bridgeNoneAtFirst() {
        WheelTown x = new WheelTown();
        for (int p = 0; p < 8; p++) {
            due("at first: no bridge at " + p, 0, x.place(p, 2));
            due("at first: no points at " + p, 0, x.place(p, 1));
        }
        world(x, "b 0;p 0;");
        due("a bridge at 0", 1, x.place(0, 2));
        due("points at 0", 1, x.place(0, 1));
        world(x, "c 0 1;");
        due("no bridge, if it is not told", 0, x.place(0, 2));
        due("no points, if they are not told", 0, x.place(0, 1));
        due("no points, if they are not told", 0, x.count(2));
    }

    // WAY (0 .. 20), PACE (0 .. 3), WORK (0 .. 9 minutes), RAIL (0 .. 2)
    private static void numbersOfAWagon() {
        int[] most = {20, 3, 9, 2};
        for (int i = 0; i < most.length; i++) {
            for (int number : new int[] {0, 1, most[i] - 1, most[i]}) {
                due("number " + i, number, town(wagonWith(i, number)).wagon(0, i));
            }
            faultAt(2 + 2 * i, wagonWith(i, most[i] + 1));
            faultAt(2 + 2 * i, wagonWith(i, 99));
            faultAt(2 + 2 * i, wagonWith(i, 100));
        }
        tells("w 20 3 9 2;", 1);
        tells("w 0 0 0 0;", 1);
    }

    private static String wagonWith(int which, int number) {
        StringBuilder text = new StringBuilder("w");
        for (int i = 0; i < 4; i++) {
            text.append(' ').append(i == which ? number : 0);
        }
        return text.append(';').toString();
    }

    // WAGONS 0 .. (5 of them at most); FAULT: a sixth wagon
    private static void fiveWagonsAtMost() {
        String four = "w 0 0 0 0;w 1 0 0 0;w 2 0 0 0;w 3 0 0 0;";
        String five = four + "w 4 0 0 0;";
        WheelTown x = town(four);
        due("four", 4, x.count(0));
        due("no wagon 4 of four", BAD, x.wagon(4, 0));
        WheelTown y = town(five);
        due("five", 5, y.count(0));
        due("wagon 4 of five", 4, y.wagon(4, 0));
        due("no wagon 5", BAD, y.wagon(5, 0));
        faultAt(50, five + "w 5 0 0 0;");
        faultAt(50, five + "w");
        faultAt(51, five + " w 99 ");
        tells(five + "p 0;h 0 4;", 7);
        due("none", 0, new WheelTown().count(0));
        due("no wagon 0 of none", BAD, new WheelTown().wagon(0, 0));
    }

    // no two on one RAIL have one WAY; FAULT: a RAIL on which another WAGON has that WAY
    private static void noTwoOnOneRailHaveOneWay() {
        tells("w 7 0 0 1;w 7 0 0 0;w 7 0 0 2;", 3);
        tells("w 7 0 0 1;w 6 0 0 1;w 8 0 0 1;", 3);
        tells("r 4;w 0 0 0 1;w 4 0 0 1;w 8 0 0 1;w 20 0 0 1;", 5);
        faultAt(18, "w 7 0 0 1;w 7 0 0 1;");
        faultAt(18, "w 7 0 0 1;w 7 3 9 1");
        faultAt(28, "w 7 0 0 1;w 7 0 0 2;w 7 1 1 1;");
        faultAt(18, "w 0 0 0 0;w 0 0 0 0;");
        // Where the RAIL is none at all the fault is there, too.
        faultAt(18, "w 7 0 0 1;w 7 0 0 3;");
        // A town that was told before does not stand in the way.
        WheelTown x = town("w 7 0 0 1;w 0 0 0 0;");
        due("told anew", 2, world(x, "w 0 0 0 0;w 7 0 0 1;"));
        due("its WAY", 7, x.wagon(1, 0));
    }

    // HITCHED: pairs (4 at most); FAULT: a fifth pair
    private static void fourPairsAtMost() {
        String wagons = "w0 0 0 0;w1 0 0 0;w2 0 0 0;w3 0 0 0;w4 0 0 0;";
        due("none", 0, town(wagons).count(1));
        due("three", 3, town(wagons + "h0 1;h1 2;h2 3;").count(1));
        due("four", 4, town(wagons + "h0 1;h1 2;h2 3;h3 4;").count(1));
        faultAt(65, wagons + "h0 1;h1 2;h2 3;h3 4;h4 0;");
        faultAt(65, wagons + "h0 1;h1 2;h2 3;h3 4;h");
        faultAt(66, wagons + "h0 1;h1 2;h2 3;h3 4; h 9 9;");
        tells(wagons + "h0 1;h1 2;h2 3;h3 4;p 0;", 10);
        due("a pair told again is one more", 2, town(wagons + "h0 1;h0 1;").count(1));
        due("and so it is turned about", 2, town(wagons + "h0 1;h1 0;").count(1));
    }

    // h A B (hitched: WAGONS told ahead ..)
    private static void pairsOfWagonsToldAhead() {
        faultAt(2, "h 0 1;");
        faultAt(11, "w0 0 0 0;h 1 0;");
        faultAt(13, "w0 0 0 0;h 0 1;");
        tells("w0 0 0 0;w1 0 0 0;h 0 1;", 3);
        tells("w0 0 0 0;w1 0 0 0;h 1 0;", 3);
        faultAt(20, "w0 0 0 0;w1 0 0 0;h 2 0;");
        faultAt(22, "w0 0 0 0;w1 0 0 0;h 0 2;");
        faultAt(22, "w0 0 0 0;w1 0 0 0;h 0 2;w2 0 0 0;");
        String five = "w0 0 0 0;w1 0 0 0;w2 0 0 0;w3 0 0 0;w4 0 0 0;";
        tells(five + "h 4 3;", 6);
        faultAt(47, five + "h 5 3;");
        faultAt(49, five + "h 3 5;");
    }

    // (.. unlike)
    private static void pairsUnlike() {
        faultAt(13, "w0 0 0 0;h 0 0;");
        faultAt(22, "w0 0 0 0;w1 0 0 0;h 1 1;");
        faultAt(22, "w0 0 0 0;w1 0 0 0;h 1 1");
    }

    // all that are HITCHED to one another, also by others, go by the greatest PACE of them
    private static void hitchedAlsoByOthers() {
        String wagons = "w0 0 0 0;w1 3 0 0;w2 1 0 0;w3 2 0 0;w4 0 0 0;";
        duePaces("alone", wagons, 0, 3, 1, 2, 0);
        duePaces("one pair", wagons + "h 0 2;", 1, 3, 1, 2, 0);
        duePaces("one pair turned about", wagons + "h 2 0;", 1, 3, 1, 2, 0);
        duePaces("by another", wagons + "h 0 2;h 3 2;", 2, 3, 2, 2, 0);
        duePaces("two lots", wagons + "h 0 2;h 3 4;", 1, 3, 1, 2, 2);
        duePaces("a lot comes to a lot", wagons + "h 0 2;h 3 4;h 4 0;", 2, 3, 2, 2, 2);
        duePaces("all, the greatest told last", wagons + "h 0 2;h 2 3;h 3 4;h 4 1;", 3, 3, 3, 3, 3);
        duePaces("all, the greatest told first", wagons + "h 1 4;h 4 3;h 3 2;h 2 0;", 3, 3, 3, 3, 3);
        duePaces("all to one", wagons + "h 4 0;h 4 2;h 4 3;h 4 1;", 3, 3, 3, 3, 3);
        duePaces("a ring of three", wagons + "h 0 2;h 2 3;h 3 0;", 2, 3, 2, 2, 0);
    }

    private static void duePaces(String what, String text, int... paces) {
        WheelTown x = town(text);
        for (int w = 0; w < paces.length; w++) {
            due(what + ": PACE of " + w, paces[w], x.wagon(w, 1));
            due(what + ": LEFT of " + w, paces[w] + 1, x.wagon(w, 4));
        }
    }

    // A byte (0 .. 255) comes to THE TEXT: how many it has. BAD
    private static void bytesOfTheText() {
        WheelTown x = new WheelTown();
        dueOfAll("type", BAD, () -> x.type(-1), () -> x.type(256), () -> x.type(Integer.MIN_VALUE),
            () -> x.type(Integer.MAX_VALUE));
        due("none came", 0, x.count(4));
        due("type(0)", 1, x.type(0));
        due("type(1)", 2, x.type(1));
        due("type(254)", 3, x.type(254));
        due("type(255)", 4, x.type(255));
        due("count(4)", 4, x.count(4));
        due("clear of four", 4, x.clear());
        due("clear of none", 0, x.clear());
        due("type again", 1, x.type(0));
    }

    // a text (200 bytes at most); FULL
    private static void twoHundredBytes() {
        WheelTown x = new WheelTown();
        for (int i = 1; i <= 198; i++) {
            x.type(32);
        }
        due("the 199th", 199, x.type('p'));
        due("the 200th", 200, x.type(255));
        due("a 201st", FULL, x.type(32));
        due("BAD ahead of FULL", BAD, x.type(256));
        due("200 still", 200, x.count(4));
        due("the last byte is read", -209, x.world());
        due("full after a fault", FULL, x.type(32));
        due("clear", 200, x.clear());
        due("room again", 1, x.type(32));
        // 199 and 200 bytes tell a town.
        tells(" ".repeat(195) + "p 1;", 1);
        tells(" ".repeat(196) + "p 1;", 1);
        faultAt(200, " ".repeat(197) + "p 1");
        faultAt(198, " ".repeat(196) + "p 8;");
        WheelTown told = town(" ".repeat(196) + "p 1;");
        due("a town that is told leaves it empty", 1, told.type(32));
    }

    // blanks (32) between TOKENS
    private static void blanksAre32() {
        tells("    ", 0);
        tells("  r   5  ;  p  4  ;  ", 2);
        tells("r5;p4;w0 0 0 0;", 3);
        faultAt(2, "r 1 2;");
        faultAt(1, "p" + (char) 31 + "1;");
        faultAt(1, "p!1;");
        faultAt(1, "p\t1;");
        faultAt(1, "p\n1;");
        faultAt(1, "p" + (char) 0 + "1;");
        faultAt(1, "p" + (char) 160 + "1;");
        faultAt(0, "\tp 1;");
        faultAt(4, "p 1;\n");
    }

    // TOKENS are letters a .. z side by side ..; FAULT: letters that begin no ITEM
    private static void lettersSideBySide() {
        for (char c = 'a'; c <= 'z'; c++) {
            if ("rcsbpwh".indexOf(c) < 0) {
                faultAt(0, c + " 1;");
            }
        }
        faultAt(0, "pa 1;");
        faultAt(0, "pz 1;");
        faultAt(0, "pp 1;");
        faultAt(0, "ap 1;");
        faultAt(0, "rs 4;");
        faultAt(0, "pppppppp");
        // The signs next to a and z are none of them, nor are the great letters.
        faultAt(1, "p`1;");
        faultAt(1, "p{1;");
        faultAt(1, "pA1;");
        faultAt(1, "pZ1;");
        faultAt(0, "P 1;");
        // Apart they are two TOKENS, of which the other can't stand there.
        faultAt(2, "p p 1;");
        faultAt(3, "p 1p;");
    }

    // .. NUMBERS and ;
    private static void digitsSideBySide() {
        tells("r 10;p 9;", 2);
        // The signs next to 0, 9 and ; are none of them.
        faultAt(3, "p 1/;");
        faultAt(3, "p 1:;");
        faultAt(3, "p 1<;");
        faultAt(2, "p /;");
        faultAt(2, "p :;");
        faultAt(2, "p -1;");
        faultAt(2, "p +1;");
        faultAt(2, "p 8;");
        faultAt(2, "p 11;");
    }

    // r N (the ring: the first of all, if it is told); FAULT: r behind another ITEM
    private static void theRingIsFirst() {
        tells("r 5;p 4;", 2);
        tells("p 4;", 1);
        for (String other : new String[] {"c 0 1;", "s 1 1;", "b 1;", "p 1;", "w 0 0 0 0;", "r 5;"}) {
            faultAt(other.length(), other + "r 5;");
            faultAt(other.length(), other + "r");
        }
        faultAt(8, "r 5;p 4;r 5;");
    }

    // c P M (.. told again: the later one counts)
    private static void costsToldAgain() {
        WheelTown x = town("c 3 4;c 3 2;c 4 1;c 4 3;");
        due("4, then 2", 2, x.place(3, 0));
        due("1, then 3", 3, x.place(4, 0));
        due("back to 1", 1, town("c 3 4;c 3 1;").place(3, 0));
        // What a WAGON has LEFT is by the later one, also where it is told behind the WAGON.
        due("LEFT", 4, town("w 3 0 0 0;c 3 2;c 3 4;").wagon(0, 4));
    }

    // s, b once each at most; FAULT: what is told again that may not
    private static void sunAndBridgeOnce() {
        tells("s 1 1;", 1);
        faultAt(6, "s 1 1;s 2 2;");
        faultAt(6, "s 3 5;s 3 5;");
        faultAt(10, "s 1 1;p 1;s");
        tells("b 0;", 1);
        faultAt(4, "b 0;b 0;");
        faultAt(4, "b 0;b 1;");
        faultAt(8, "b 7;p 1;b");
        // Told in a text ahead of this one is not told again.
        WheelTown x = town("s 1 1;b 0;");
        due("told anew", 2, world(x, "b 1;s 2 2;"));
        due("the bridge", 1, x.place(1, 2));
        due("not that of the other text", 0, x.place(0, 2));
        due("EACH", 2, x.now(2));
        // A text with a fault has told nothing.
        due("fault", -20, world(x, "s 1 1;b 0;x"));
        x.clear();
        due("told anew", 2, world(x, "s 4 4;b 4;"));
        due("EACH", 4, x.now(2));
    }

    // p P (points; told again: well)
    private static void pointsToldAgain() {
        WheelTown x = town("p 3;p 3;p 0;p 3;");
        due("two PLACES", 2, x.count(2));
        due("3", 1, x.place(3, 1));
        due("0", 1, x.place(0, 1));
        due("all PLACES", 4, town("r 4;p 0;p 1;p 2;p 3;p 0;").count(2));
        due("the last of the greatest ring", 1, town("r 12;p 11;").place(11, 1));
    }

    // a NUMBER above 99: that TOKEN's
    private static void numbersAbove99() {
        for (String number : new String[] {"99", "100", "101", "999", "4294967297", "2147483649", "18446744073709551617"}) {
            faultAt(2, "p " + number + ";");
            faultAt(4, "c 1 " + number + ";");
            faultAt(3, "p 1p" + number + ";");
            faultAt(4, "p 1 " + number + ";");
            faultAt(0, number + ";");
        }
        faultAt(1, "p" + "1".repeat(199));
        faultAt(1, "p" + "9".repeat(150) + ";");
    }

    // .. or with a 0 ahead of others: that TOKEN's
    private static void noughtAheadOfOthers() {
        tells("p 0;", 1);
        tells("r 10;", 1);
        for (String number : new String[] {"00", "01", "04", "000", "012", "0000000001"}) {
            faultAt(2, "p " + number + ";");
            faultAt(1, "p" + number + ";");
            faultAt(4, "c 1 " + number + ";");
            faultAt(2, "p " + number);
        }
        // Apart they are two TOKENS.
        tells("c 0 1;", 1);
        tells("c0 1;", 1);
    }

    // FAULT: of a byte that begins none: that TOKEN's
    private static void bytesThatBeginNone() {
        for (int c = 0; c <= 255; c++) {
            boolean begins = c == 32 || c == ';' || c >= '0' && c <= '9' || c >= 'a' && c <= 'z';
            if (!begins) {
                faultAt(0, "" + (char) c);
                faultAt(5, " p 1;" + (char) c);
                faultAt(4, " p 1" + (char) c + ";");
            }
        }
    }

    // the text's length, if it ends too early
    private static void textsThatEndTooEarly() {
        String[] items = {"r 5;", "c 0 2;", "s 2 3;", "b 6;", "p 6;", "w 5 2 7 1;"};
        for (String item : items) {
            for (int length = 1; length < item.length(); length++) {
                faultAt(length, item.substring(0, length));
            }
            tells(item, 1);
        }
        String wagons = "w0 0 0 0;w1 0 0 0;";
        String pair = wagons + "h 0 1;";
        for (int length = wagons.length() + 1; length < pair.length(); length++) {
            faultAt(length, pair.substring(0, length));
        }
        tells(pair, 3);
        faultAt(6, "p 1   ");
        faultAt(4, "p   ");
        faultAt(9, "p 1;p    ");
    }

    // the first TOKEN that can't stand there
    private static void theFirstFaultCounts() {
        faultAt(0, ";");
        faultAt(0, "1;");
        faultAt(4, "p 1;;");
        faultAt(1, "p;");
        faultAt(3, "c 1;");
        faultAt(4, "p 1 1;");
        faultAt(6, "c 1 1 1;");
        faultAt(2, "p p;");
        faultAt(3, "p 1p 1;");
        faultAt(2, "p 9;x");
        faultAt(2, "r 3");
        faultAt(2, "w 21 4 10 3;");
        faultAt(4, "w 0 4 10 3;");
        faultAt(6, "w 0 0 10 3;");
        faultAt(2, "w x 0 0 0;");
        faultAt(2, "w ; 0 0 0;");
        faultAt(10, "w 0 0 0 0 0;");
        faultAt(9, "w 0 0 0 0p 1;");
    }

    // how many ITEMS: none, one, as many as fit
    private static void itemsThatAreNone() {
        tells("", 0);
        tells(" ", 0);
        tells("p0;", 1);
        tells("p0;p1;", 2);
        tells("p0;".repeat(66) + "  ", 66);
        WheelTown x = town("r 12;s 1 1;b 2;p 3;w 4 0 0 0;");
        due("an empty text tells a town, too", 0, x.world());
        due("that of a new object: n", 8, x.now(1));
        due("that of a new object: no WAGONS", 0, x.count(0));
    }

    // THE TEXT tells all: nothing is left of a text ahead of it, whether it told a town or had a fault
    private static void whatWasToldIsGone() {
        String all = "r 12;c 0 4;s 1 1;b 1;p 2;w 4 3 9 1;w 5 3 9 1;h 0 1;";
        WheelTown x = new WheelTown();
        for (int again = 0; again < 3; again++) {
            world(x, all);
            due("told " + again, 1, world(x, "w 4 0 0 1;"));
            dueOneWagon("told " + again, x);
        }
        WheelTown y = town("w 4 0 0 1;");
        for (int again = 0; again < 3; again++) {
            due("a fault", -10 - all.length(), world(y, all + "x"));
            y.clear();
            dueOneWagon("a fault " + again, y);
            due("told " + again, 1, world(y, "w 4 0 0 1;"));
            dueOneWagon("a fault and then told " + again, y);
        }
    }

    private static void dueOneWagon(String what, WheelTown x) {
        int[] now = {0, 8, 3, 5, 0, 1};
        int[] wagon = {4, 0, 0, 1, 1, 0, 0, 0};
        int[] count = {1, 0, 0, 0, 0};
        for (int i = 0; i < wagon.length; i++) {
            due(what + ": wagon(0, " + i + ")", wagon[i], x.wagon(0, i));
            due(what + ": place(" + i + ", 0)", 1, x.place(i, 0));
            due(what + ": place(" + i + ", 2)", 0, x.place(i, 2));
        }
        for (int i = 0; i < now.length; i++) {
            due(what + ": now(" + i + ")", now[i], x.now(i));
        }
        for (int i = 0; i < count.length; i++) {
            due(what + ": count(" + i + ")", count[i], x.count(i));
        }
    }

    // .. nor are its WAGONS: they take no place, they are not caught, they lack nothing
    private static void wagonsOfAnotherTownAreGone() {
        String five = "p 0;w 4 3 9 0;w 5 3 9 0;w 6 3 9 0;w 7 3 9 0;w 20 3 9 0;h 0 1;h 1 2;h 2 3;h 3 4;";
        String two = "s 2 2;w 3 0 4 0;w 2 0 1 1;";
        WheelTown x = new WheelTown();
        world(x, five);
        world(x, five);
        world(x, two);
        WheelTown twin = town(two);
        for (int t = 0; t < 8; t++) {
            dueAlike("minute " + t, courseOf(twin), courseOf(x));
            due("minute " + t, twin.minute(), x.minute());
        }
    }

    private static String courseOf(WheelTown x) {
        StringBuilder course = new StringBuilder();
        for (int w = 0; w < 2; w++) {
            course.append(x.wagon(w, 0)).append(' ').append(x.behind(60, w, 0)).append(' ').append(x.stands(w)).append(' ');
        }
        course.append(x.now(4)).append(' ').append(x.now(5)).append(' ').append(x.caught(0)).append(' ').append(x.waits(0));
        course.append(' ').append(x.starts(-1)).append(' ').append(x.starts(0)).append(' ').append(x.bars()).append(' ');
        course.append(x.pieces(0, 20)).append(' ').append(x.pieces(1, 20)).append(' ').append(x.met(4, 2));
        return course.toString();
    }

    // clear: THE TEXT is empty; a text ends where it ends, whatever was typed ahead of it
    private static void whatWasTypedIsGone() {
        WheelTown x = new WheelTown();
        String[][] texts = {{"pppp", "p"}, {"p 1111", "p 1"}, {"p 0000", "p 0"}, {"p 1;;;", "p 1"}, {"p 1;xxx", "p 1;"},
            {"p    ", "p"}};
        for (String[] row : texts) {
            type(x, row[0]);
            due("clear", row[0].length(), x.clear());
            due("'" + row[1] + "'", row[1].endsWith(";") ? 1 : -10 - row[1].length(), world(x, row[1]));
            x.clear();
        }
        // Also if it ends at the 200th byte.
        String pad = " ".repeat(196);
        faultAt(198, pad + "p 00");
        faultAt(198, pad + "p 12");
        faultAt(198, pad + "  pp");
        faultAt(200, pad + "   p");
        faultAt(200, pad + "p  0");
        faultAt(199, pad + "   x");
        faultAt(199, pad + "   ;");
    }
}
