import java.math.BigInteger;
import java.nio.charset.StandardCharsets;
import java.util.ArrayDeque;
import java.util.ArrayList;
import java.util.Arrays;
import java.util.Comparator;
import java.util.HashSet;
import java.util.List;
import java.util.Random;
import java.util.Set;
import java.util.regex.Matcher;
import java.util.regex.Pattern;

/** Long random runs, each answer held against a slow model of the document that is written another way. */
public final class ModelTest {
    private static final int RUNS = 1200;
    private static final int READINGS = 6000;
    private static final int CLOSE_RUNS = 4000;
    private static final int CALLS = 512;
    private static final String[] NAMES = {
        "type", "clear", "world", "place", "wagon", "now", "sun", "minute", "stand", "change", "undo", "behind",
        "caught", "waits", "stands", "starts", "bars", "pieces", "met", "odds", "keepAhead", "mark", "keep", "back",
        "count", "trace"};
    private static final int[] SHARES = {
        2, 1, 1, 4, 20, 8, 3, 40, 14, 12, 8, 10, 5, 5, 2, 3, 2, 4, 5, 4, 3, 8, 3, 3, 6, 2};

    private static int wrong = 0;
    private static final int[] asked = new int[NAMES.length];
    private static final List<Set<Long>> answers = new ArrayList<>();

    public static void main(String[] args) {
        for (int i = 0; i < NAMES.length; i++) {
            answers.add(new HashSet<>());
        }
        for (int run = 0; run < RUNS && wrong < 20; run++) {
            oneRun(run);
        }
        for (int run = 0; run < READINGS && wrong < 20; run++) {
            oneReading(run);
        }
        for (int run = 0; run < CLOSE_RUNS && wrong < 20; run++) {
            oneCloseRun(run);
        }
        for (int i = 0; i < NAMES.length; i++) {
            // A call that was hardly asked, or answered always alike, was not tested.
            if (asked[i] < 100 || answers.get(i).size() < 3) {
                wrong++;
                System.out.println(NAMES[i] + " was asked too little: " + asked[i] + ", " + answers.get(i));
            }
        }
        System.out.println(wrong == 0 ? "the model and the class agree" : wrong + " answers differ");
        if (wrong != 0) {
            System.exit(1);
        }
    }

    private static void oneRun(int run) {
        Random random = new Random(run * 7919L + 5);
        WheelTown town = new WheelTown();
        Model model = new Model();
        StringBuilder told = new StringBuilder();
        int calls = 0;
        int worlds = run % 10 == 0 ? 0 : run % 5 == 0 ? 2 : 1;
        for (int i = 0; i < worlds; i++) {
            byte[] text = someText(random, run % 4 == 3).getBytes(StandardCharsets.ISO_8859_1);
            for (byte b : text) {
                compare(run, told, 0, new int[] {b & 255}, town, model);
            }
            compare(run, told, 2, new int[] {}, town, model);
            calls += text.length + 1;
            int more = i + 1 < worlds ? 40 : CALLS - calls;
            for (int k = 0; k < more; k++) {
                int which = pick(random);
                compare(run, told, which, someArguments(random, which), town, model);
            }
            calls += more;
        }
        for (int k = calls; k < CALLS; k++) {
            int which = pick(random);
            compare(run, told, which, someArguments(random, which), town, model);
        }
    }

    /** Items in any order, their numbers mostly well; what is told then is looked at. */
    private static void oneReading(int run) {
        Random random = new Random(run * 104729L + 3);
        WheelTown town = new WheelTown();
        Model model = new Model();
        StringBuilder told = new StringBuilder();
        for (int again = 0; again < 2; again++) {
            for (char c : soup(random).toCharArray()) {
                call(run, told, town, model, "type", c);
            }
            call(run, told, town, model, "world");
            for (int i = 0; i < 5; i++) {
                call(run, told, town, model, "now", i);
                call(run, told, town, model, "count", i);
                call(run, told, town, model, "wagon", i, 0);
                call(run, told, town, model, "wagon", i, 1);
                call(run, told, town, model, "wagon", i, 4);
                call(run, told, town, model, "place", random.nextInt(12), i);
            }
            call(run, told, town, model, "clear");
        }
    }

    private static String soup(Random r) {
        StringBuilder text = new StringBuilder();
        if (r.nextInt(3) == 0) {
            text.append("r ").append(4 + r.nextInt(9)).append(';');
        }
        for (int i = 1 + r.nextInt(14); i > 0; i--) {
            text.append(soupItem(r)).append(r.nextInt(60) == 0 ? "" : ";");
        }
        if (r.nextInt(10) == 0) {
            text.setLength(r.nextInt(text.length() + 1));
        }
        return text.toString();
    }

    private static String soupItem(Random r) {
        int odd = r.nextInt(90);
        if (odd < 6) {
            return new String[] {"ww 0", "q 1", "z", "r 5", "p 4294967300", "c 00 1"}[odd];
        }
        int p = r.nextInt(30) == 0 ? 12 : r.nextInt(4);
        switch ("cspbwwwwwhhhh".charAt(r.nextInt(13))) {
            case 'c': return "c " + p + " " + (r.nextInt(25) == 0 ? r.nextBoolean() ? 0 : 5 : 1 + r.nextInt(4));
            case 's': return "s " + (r.nextInt(15) == 0 ? 10 : r.nextInt(20) == 0 ? 0 : 1 + r.nextInt(9)) + " "
                + (r.nextInt(15) == 0 ? 21 : r.nextInt(20) == 0 ? 0 : 1 + r.nextInt(20));
            case 'p': return "p " + p;
            case 'b': return "b" + p;
            case 'w': return "w " + (r.nextInt(60) == 0 ? 21 : r.nextInt(21)) + " " + (r.nextInt(60) == 0 ? 4 : r.nextInt(4))
                + " " + (r.nextInt(60) == 0 ? 10 : r.nextInt(10)) + " " + (r.nextInt(60) == 0 ? 3 : r.nextInt(3));
            default: {
                int a = r.nextInt(3);
                return "h " + a + " " + (r.nextInt(20) == 0 ? a : (a + 1 + r.nextInt(2)) % 3);
            }
        }
    }

    /** A close sun and works: starts, who bars, and how long one can stand, at first and a little later. */
    private static void oneCloseRun(int run) {
        Random r = new Random(run * 15485863L + 1);
        StringBuilder text = new StringBuilder();
        text.append("s ").append(2 + r.nextInt(2)).append(' ').append(1 + r.nextInt(4)).append(';');
        if (r.nextBoolean()) {
            text.append('b').append(r.nextInt(8)).append(';');
        }
        int wagons = r.nextInt(5) == 0 ? 5 : 1 + r.nextInt(3);
        Set<Integer> taken = new HashSet<>();
        while (taken.size() < wagons) {
            int way = r.nextInt(r.nextInt(3) == 0 ? 15 : 5);
            int rail = r.nextInt(2);
            if (taken.add(way * 3 + rail)) {
                text.append("w ").append(way).append(' ').append(r.nextInt(r.nextInt(4) == 0 ? 4 : 2)).append(' ')
                    .append(r.nextInt(10)).append(' ').append(rail).append(';');
            }
        }
        WheelTown town = new WheelTown();
        Model model = new Model();
        StringBuilder told = new StringBuilder();
        for (char c : text.toString().toCharArray()) {
            call(run, told, town, model, "type", c);
        }
        call(run, told, town, model, "world");
        for (int again = 0; again < 2; again++) {
            for (int w = -1; w < wagons; w++) {
                call(run, told, town, model, "starts", w);
            }
            call(run, told, town, model, "bars");
            call(run, told, town, model, "stands", r.nextInt(wagons));
            call(run, told, town, model, "stand", r.nextInt(wagons), 1 + r.nextInt(3));
            for (int i = r.nextInt(6); i > 0; i--) {
                call(run, told, town, model, "minute");
            }
        }
    }

    private static void call(int run, StringBuilder told, WheelTown town, Model model, String name, int... a) {
        compare(run, told, List.of(NAMES).indexOf(name), a, town, model);
    }

    private static int pick(Random random) {
        int sum = Arrays.stream(SHARES).sum();
        int at = random.nextInt(sum);
        int i = 0;
        while (at >= SHARES[i]) {
            at -= SHARES[i];
            i++;
        }
        return i;
    }

    // ---- what is asked

    private static int near(Random random, int least, int most) {
        int odd = random.nextInt(60);
        if (odd == 0) {
            return least - 1;
        }
        if (odd == 1) {
            return most + 1;
        }
        if (odd == 2) {
            return random.nextInt();
        }
        if (odd == 3) {
            return random.nextBoolean() ? Integer.MIN_VALUE : Integer.MAX_VALUE;
        }
        if (odd == 4) {
            return random.nextBoolean() ? least : most;
        }
        return least + random.nextInt(most - least + 1);
    }

    private static int[] someArguments(Random r, int which) {
        switch (NAMES[which]) {
            case "type": return new int[] {near(r, 0, 255)};
            case "place": return new int[] {near(r, 0, 11), near(r, 0, 2)};
            case "wagon": return new int[] {near(r, 0, 4), near(r, 0, 7)};
            case "now": return new int[] {near(r, 0, 5)};
            case "sun": return new int[] {near(r, 0, 1100)};
            case "stand": return new int[] {near(r, 0, 4), r.nextInt(4) == 0 ? near(r, 1, 30) : near(r, 1, 4)};
            case "change": return new int[] {near(r, 0, 4), near(r, 0, 2)};
            case "behind": return new int[] {near(r, 0, 60), near(r, 0, 4), near(r, 0, 1)};
            case "caught": case "waits": return new int[] {near(r, 0, 1)};
            case "stands": return new int[] {near(r, 0, 4)};
            case "starts": return new int[] {near(r, -1, 4)};
            case "pieces": return new int[] {near(r, 0, 2), near(r, 0, 60)};
            case "met": return new int[] {near(r, 0, 11), r.nextBoolean() ? near(r, 0, 99) : near(r, 0, 9)};
            case "odds": return new int[] {near(r, 0, 4), near(r, 0, 10), near(r, 0, 12), near(r, 0, 1)};
            case "keepAhead": return new int[] {near(r, 0, 4), near(r, 0, 10), near(r, 0, 12), near(r, 0, 10)};
            case "mark": return new int[] {near(r, 0, 5), near(r, 0, 4)};
            case "keep": case "back": return new int[] {near(r, 0, 1)};
            case "count": return new int[] {near(r, 0, 4)};
            default: return new int[] {};
        }
    }

    private static String someText(Random r, boolean spoilt) {
        StringBuilder text = new StringBuilder();
        int n = 8;
        if (r.nextInt(3) > 0) {
            n = 4 + r.nextInt(9);
            text.append("r ").append(n).append(';');
        }
        // In half of the worlds the sun is close, so that starts are a choice and many are caught.
        boolean close = r.nextBoolean();
        if (close) {
            text.append("s ").append(1 + r.nextInt(3)).append(' ').append(1 + r.nextInt(5)).append(';');
        } else if (r.nextInt(4) > 0) {
            text.append("s ").append(1 + r.nextInt(9)).append(' ').append(1 + r.nextInt(20)).append(';');
        }
        if (r.nextInt(3) > 0) {
            text.append("b").append(r.nextInt(n)).append("; ");
        }
        for (int i = r.nextInt(5); i > 0; i--) {
            text.append("c ").append(r.nextInt(n)).append(' ').append(1 + r.nextInt(4)).append(';');
        }
        for (int i = r.nextInt(6); i > 0; i--) {
            text.append("p ").append(r.nextInt(n)).append(';');
        }
        int wagons = r.nextInt(8) == 0 ? r.nextInt(3) : 2 + r.nextInt(4);
        Set<Integer> taken = new HashSet<>();
        int span = close ? 5 : 3 + r.nextInt(18);
        for (int w = 0; w < wagons; w++) {
            int way = r.nextInt(span + 1);
            int rail = r.nextInt(3);
            if (!taken.add(way * 3 + rail) && !spoilt) {
                w--;
                continue;
            }
            text.append("w ").append(way).append(' ').append(r.nextInt(4)).append(' ').append(r.nextInt(10))
                .append(' ').append(rail).append(';');
        }
        for (int i = wagons < 2 ? 0 : r.nextInt(5); i > 0; i--) {
            int a = r.nextInt(wagons);
            int b = (a + 1 + r.nextInt(wagons - 1)) % wagons;
            text.append("h ").append(a).append(' ').append(b).append(';');
        }
        return spoilt ? spoil(r, text) : text.toString();
    }

    private static String spoil(Random r, StringBuilder text) {
        String bytes = "rcsbpwh;  0123456789;;zaA-/:`{\n\t" + (char) 0 + (char) 233 + (char) 255;
        for (int i = r.nextInt(4); i > 0; i--) {
            int at = r.nextInt(text.length() + 1);
            char c = bytes.charAt(r.nextInt(bytes.length()));
            if (r.nextBoolean()) {
                text.insert(at, c);
            } else if (at < text.length()) {
                text.setCharAt(at, c);
            }
        }
        if (r.nextInt(4) == 0) {
            text.setLength(r.nextInt(text.length() + 1));
        }
        return text.toString();
    }

    // ---- both are asked

    private static void compare(int run, StringBuilder told, int which, int[] a, WheelTown town, Model model) {
        long got = ask(which, a, town);
        long want = model.answer(NAMES[which], a);
        asked[which]++;
        if (answers.get(which).size() < 10) {
            answers.get(which).add(got);
        }
        told.append(NAMES[which]).append(Arrays.toString(a)).append('=').append(want).append(' ');
        if (got != want) {
            wrong++;
            if (wrong < 20) {
                String before = told.length() > 1500 ? ".." + told.substring(told.length() - 1500) : told.toString();
                System.out.println("run " + run + ": " + NAMES[which] + Arrays.toString(a) + " answered " + got
                    + ", due is " + want + "; text was " + model.lastText + "; " + before);
            }
        }
    }

    private static long ask(int which, int[] a, WheelTown x) {
        switch (NAMES[which]) {
            case "type": return x.type(a[0]);
            case "clear": return x.clear();
            case "world": return x.world();
            case "place": return x.place(a[0], a[1]);
            case "wagon": return x.wagon(a[0], a[1]);
            case "now": return x.now(a[0]);
            case "sun": return x.sun(a[0]);
            case "minute": return x.minute();
            case "stand": return x.stand(a[0], a[1]);
            case "change": return x.change(a[0], a[1]);
            case "undo": return x.undo();
            case "behind": return x.behind(a[0], a[1], a[2]);
            case "caught": return x.caught(a[0]);
            case "waits": return x.waits(a[0]);
            case "stands": return x.stands(a[0]);
            case "starts": return x.starts(a[0]);
            case "bars": return x.bars();
            case "pieces": return x.pieces(a[0], a[1]);
            case "met": return x.met(a[0], a[1]);
            case "odds": return x.odds(a[0], a[1], a[2], a[3]);
            case "keepAhead": return x.keepAhead(a[0], a[1], a[2], a[3]);
            case "mark": return x.mark(a[0], a[1]);
            case "keep": return x.keep(a[0]);
            case "back": return x.back(a[0]);
            case "count": return x.count(a[0]);
            default: return x.trace();
        }
    }

    // ---- the model

    /** One wagon at one time; never changed, only made anew. */
    private record Car(int way, int rail, int left, int stand, int done, boolean caught) { }

    private record Snap(int minute, List<Car> cars) { }

    private record Kept(Snap snap, List<Snap> past) { }

    private static final class World {
        int n = 8;
        int each = 3;
        int lead = 5;
        int bridge = -1;
        int[] costs = new int[12];
        Set<Integer> points = new HashSet<>();
        List<int[]> wagons = new ArrayList<>();
        List<int[]> pairs = new ArrayList<>();

        World() {
            Arrays.fill(costs, 1);
        }

        int pace(int w) {
            Set<Integer> group = new HashSet<>(Set.of(w));
            ArrayDeque<Integer> open = new ArrayDeque<>(group);
            while (!open.isEmpty()) {
                int at = open.poll();
                for (int[] pair : pairs) {
                    int other = pair[0] == at ? pair[1] : pair[1] == at ? pair[0] : at;
                    if (group.add(other)) {
                        open.add(other);
                    }
                }
            }
            return group.stream().mapToInt(g -> wagons.get(g)[1]).max().orElseThrow();
        }

        int stay(int w, int way) {
            return costs[way % n] + pace(w);
        }

        Snap first() {
            List<Car> cars = new ArrayList<>();
            for (int w = 0; w < wagons.size(); w++) {
                int[] told = wagons.get(w);
                cars.add(new Car(told[0], told[3], stay(w, told[0]), 0, 0, false));
            }
            return new Snap(0, cars);
        }
    }

    private static final class Fault extends RuntimeException {
        private static final long serialVersionUID = 1L;
        final int at;

        Fault(int at) {
            super("fault", null, false, false);
            this.at = at;
        }
    }

    private static final class Model {
        String text = "";
        String lastText = "";
        World world = new World();
        int[] paces = {};
        Snap now = world.first();
        List<Snap> past = new ArrayList<>();
        Kept[] images = new Kept[2];
        long trace = 0;

        long answer(String name, int[] a) {
            switch (name) {
                case "type": return type(a[0]);
                case "clear": {
                    int had = text.length();
                    text = "";
                    return had;
                }
                case "world": return read();
                case "place": return place(a[0], a[1]);
                case "wagon": return wagon(a[0], a[1]);
                case "now": return nowOf(a[0]);
                case "sun": return in(a[0], 0, 1100) ? sunAt(a[0], world.lead) : -1000000;
                case "minute": return minute();
                case "stand": return stand(a[0], a[1]);
                case "change": return change(a[0], a[1]);
                case "undo": {
                    if (past.isEmpty()) {
                        return -2;
                    }
                    now = past.remove(past.size() - 1);
                    return past.size();
                }
                case "behind": {
                    if (!in(a[0], 0, 60) || !isWagon(a[1]) || !in(a[2], 0, 1)) {
                        return -1;
                    }
                    Car car = after(now, a[0]).cars().get(a[1]);
                    return a[2] == 0 ? car.way() : car.caught() ? 1 : 0;
                }
                case "caught": return firstCaught(a[0]);
                case "waits": return firstWaits(a[0]);
                case "stands": return stands(a[0]);
                case "starts": return starts(a[0]);
                case "bars": return bars();
                case "pieces": return pieces(a[0], a[1]);
                case "met": return met(a[0], a[1]);
                case "odds": return odds(a[0], a[1], a[2], a[3]);
                case "keepAhead": return keepAhead(a[0], a[1], a[2], a[3]);
                case "mark": return mark(a[0], a[1]);
                case "keep": {
                    if (!in(a[0], 0, 1)) {
                        return -1;
                    }
                    images[a[0]] = new Kept(now, List.copyOf(past));
                    return now.minute();
                }
                case "back": {
                    if (!in(a[0], 0, 1)) {
                        return -1;
                    }
                    if (images[a[0]] == null) {
                        return -2;
                    }
                    now = images[a[0]].snap();
                    past = new ArrayList<>(images[a[0]].past());
                    return now.minute();
                }
                case "count": {
                    int[] all = {world.wagons.size(), world.pairs.size(), world.points.size(), past.size(), text.length()};
                    return in(a[0], 0, 4) ? all[a[0]] : -1;
                }
                default: return trace;
            }
        }

        static boolean in(int x, int least, int most) {
            return x >= least && x <= most;
        }

        boolean isWagon(int w) {
            return in(w, 0, now.cars().size() - 1);
        }

        int sunAt(int t, int lead) {
            return t / world.each - lead;
        }

        int type(int c) {
            if (!in(c, 0, 255)) {
                return -1;
            }
            if (text.length() >= 200) {
                return -3;
            }
            text += (char) c;
            return text.length();
        }

        // ---- reading: all tokens first, then item by item by a table

        int read() {
            lastText = text;
            World told = new World();
            int items;
            try {
                items = readAll(told);
            } catch (Fault fault) {
                return -10 - fault.at;
            }
            world = told;
            text = "";
            now = world.first();
            past.clear();
            images = new Kept[2];
            paces = new int[world.wagons.size()];
            for (int w = 0; w < paces.length; w++) {
                paces[w] = world.pace(w);
            }
            return items;
        }

        private int readAll(World told) {
            Matcher tokens = Pattern.compile("[a-z]+|[0-9]+|[^ ]", Pattern.DOTALL).matcher(text);
            int items = 0;
            Set<String> seen = new HashSet<>();
            while (tokens.find()) {
                String kind = tokens.group();
                int at = tokens.start();
                boolean once = kind.equals("s") || kind.equals("b");
                if (!List.of("r", "c", "s", "b", "p", "w", "h").contains(kind)
                    || kind.equals("r") && items > 0
                    || once && !seen.add(kind)
                    || kind.equals("w") && told.wagons.size() == 5
                    || kind.equals("h") && told.pairs.size() == 4) {
                    throw new Fault(at);
                }
                int[][] limits = limits(told, kind);
                int[] numbers = new int[limits.length];
                for (int i = 0; i < limits.length; i++) {
                    numbers[i] = number(tokens, limits[i]);
                    boolean same = kind.equals("h") && i == 1 && numbers[0] == numbers[1];
                    boolean taken = kind.equals("w") && i == 3
                        && told.wagons.stream().anyMatch(w -> w[0] == numbers[0] && w[3] == numbers[3]);
                    if (same || taken) {
                        throw new Fault(tokens.start());
                    }
                }
                if (!tokens.find()) {
                    throw new Fault(text.length());
                }
                if (!tokens.group().equals(";")) {
                    throw new Fault(tokens.start());
                }
                put(told, kind, numbers);
                items++;
            }
            return items;
        }

        private int[][] limits(World told, String kind) {
            int[] place = {0, told.n - 1};
            int[] wagon = {0, told.wagons.size() - 1};
            switch (kind) {
                case "r": return new int[][] {{4, 12}};
                case "c": return new int[][] {place, {1, 4}};
                case "s": return new int[][] {{1, 9}, {1, 20}};
                case "w": return new int[][] {{0, 20}, {0, 3}, {0, 9}, {0, 2}};
                case "h": return new int[][] {wagon, wagon};
                default: return new int[][] {place};
            }
        }

        private int number(Matcher tokens, int[] limit) {
            if (!tokens.find()) {
                throw new Fault(text.length());
            }
            String token = tokens.group();
            if (!token.matches("0|[1-9][0-9]?") || !in(Integer.parseInt(token), limit[0], limit[1])) {
                throw new Fault(tokens.start());
            }
            return Integer.parseInt(token);
        }

        private void put(World told, String kind, int[] numbers) {
            switch (kind) {
                case "r": told.n = numbers[0]; break;
                case "c": told.costs[numbers[0]] = numbers[1]; break;
                case "s": told.each = numbers[0]; told.lead = numbers[1]; break;
                case "b": told.bridge = numbers[0]; break;
                case "p": told.points.add(numbers[0]); break;
                case "w": told.wagons.add(numbers); break;
                default: told.pairs.add(numbers); break;
            }
        }

        // ---- the world and orders

        int place(int p, int what) {
            if (!in(p, 0, world.n - 1) || !in(what, 0, 2)) {
                return -1;
            }
            int[] all = {world.costs[p], world.points.contains(p) ? 1 : 0, world.bridge == p ? 1 : 0};
            return all[what];
        }

        int wagon(int w, int what) {
            if (!isWagon(w) || !in(what, 0, 7)) {
                return -1;
            }
            Car c = now.cars().get(w);
            int[] all = {c.way(), paces[w], world.wagons.get(w)[2], c.rail(), c.left(), c.stand(), c.done(), c.caught() ? 1 : 0};
            return all[what];
        }

        int nowOf(int what) {
            int done = 0;
            for (int w = 0; w < now.cars().size(); w++) {
                done += now.cars().get(w).done() < world.wagons.get(w)[2] ? 0 : 1 << w;
            }
            int[] all = {now.minute(), world.n, world.each, world.lead, bits(now), done};
            return in(what, 0, 5) ? all[what] : -1;
        }

        int bits(Snap snap) {
            int bits = 0;
            for (int w = 0; w < snap.cars().size(); w++) {
                bits += snap.cars().get(w).caught() ? 1 << w : 0;
            }
            return bits;
        }

        void remember(Snap next) {
            past.add(now);
            if (past.size() > 10) {
                past.remove(0);
            }
            now = next;
        }

        Snap with(Snap snap, int w, Car car) {
            List<Car> cars = new ArrayList<>(snap.cars());
            cars.set(w, car);
            return new Snap(snap.minute(), cars);
        }

        Car standing(Car c, int more) {
            return new Car(c.way(), c.rail(), c.left(), c.stand() + more, c.done(), c.caught());
        }

        int minute() {
            if (now.minute() == 999) {
                return -2;
            }
            remember(step(now, null));
            return Integer.bitCount(bits(now));
        }

        int stand(int w, int n) {
            if (!isWagon(w) || !in(n, 1, 30)) {
                return -1;
            }
            Car c = now.cars().get(w);
            if (c.caught() || c.stand() + n > 99) {
                return -2;
            }
            remember(with(now, w, standing(c, n)));
            return c.stand() + n;
        }

        int change(int w, int rail) {
            if (!isWagon(w) || !in(rail, 0, 2)) {
                return -1;
            }
            Car c = now.cars().get(w);
            boolean there = now.cars().stream().anyMatch(o -> o.way() == c.way() && o.rail() == rail);
            if (c.caught() || c.rail() == rail || !world.points.contains(c.way() % world.n) || there) {
                return -2;
            }
            remember(with(now, w, new Car(c.way(), rail, c.left(), c.stand(), c.done(), false)));
            return c.rail();
        }

        /** A minute; who waits comes to the list, if there is one. */
        Snap step(Snap snap, List<Integer> waiting) {
            List<Integer> order = new ArrayList<>();
            for (int w = 0; w < snap.cars().size(); w++) {
                order.add(w);
            }
            order.sort(Comparator.comparing((Integer w) -> -snap.cars().get(w).way()).thenComparing(w -> w));
            List<Car> cars = new ArrayList<>(snap.cars());
            for (int w : order) {
                Car c = cars.get(w);
                if (c.caught()) {
                    continue;
                }
                if (c.stand() > 0) {
                    cars.set(w, new Car(c.way(), c.rail(), c.left(), c.stand() - 1, c.done() + 1, false));
                    continue;
                }
                int left = c.left() > 0 ? c.left() - 1 : 0;
                int next = c.way() + 1;
                boolean onBridge = next % world.n == world.bridge;
                boolean free = cars.stream().noneMatch(o -> o.way() == next && (onBridge || o.rail() == c.rail()));
                boolean comes = left == 0 && free;
                if (left == 0 && !free && waiting != null) {
                    waiting.add(w);
                }
                cars.set(w, new Car(comes ? next : c.way(), c.rail(),
                    comes ? world.costs[next % world.n] + paces[w] : left, 0, c.done(), false));
            }
            int sun = sunAt(snap.minute() + 1, world.lead);
            cars.replaceAll(c -> c.way() > sun || c.caught() ? c
                : new Car(c.way(), c.rail(), c.left(), c.stand(), c.done(), true));
            return new Snap(snap.minute() + 1, cars);
        }

        Snap after(Snap snap, int n) {
            Snap at = snap;
            for (int i = 0; i < n; i++) {
                at = step(at, null);
            }
            return at;
        }

        // ---- what comes

        int firstCaught(int what) {
            if (!in(what, 0, 1)) {
                return -1;
            }
            for (int t = 1; t <= 60; t++) {
                int more = bits(after(now, t)) - bits(now);
                if (more != 0) {
                    return what == 0 ? t : Integer.numberOfTrailingZeros(more);
                }
            }
            return -9;
        }

        int firstWaits(int what) {
            if (!in(what, 0, 1)) {
                return -1;
            }
            Snap at = now;
            for (int t = 1; t <= 60; t++) {
                List<Integer> waiting = new ArrayList<>();
                at = step(at, waiting);
                if (!waiting.isEmpty()) {
                    return what == 0 ? t : waiting.get(0);
                }
            }
            return -9;
        }

        int stands(int w) {
            if (!isWagon(w)) {
                return -1;
            }
            Car c = now.cars().get(w);
            if (c.caught()) {
                return -2;
            }
            int best = -9;
            for (int n = 0; n <= 30 && c.stand() + n <= 99; n++) {
                if (bits(after(with(now, w, standing(c, n)), 40)) == bits(now)) {
                    best = n;
                }
            }
            return best;
        }

        List<Integer> lacking() {
            List<Integer> who = new ArrayList<>();
            for (int w = 0; w < now.cars().size(); w++) {
                if (!now.cars().get(w).caught() && lack(w) > 0 && who.size() < 3) {
                    who.add(w);
                }
            }
            return who;
        }

        int lack(int w) {
            Car c = now.cars().get(w);
            return world.wagons.get(w)[2] - c.done() - c.stand();
        }

        /** All starts of those that are ordered, in the order of a counter; the best of them by its sum, the first kept. */
        int[] bestStarts(List<Integer> who) {
            int all = 1;
            for (int i = 0; i < who.size(); i++) {
                all *= 7;
            }
            int[] best = null;
            for (int number = 0; number < all; number++) {
                int[] starts = new int[who.size()];
                int rest = number;
                for (int i = starts.length - 1; i >= 0; i--) {
                    starts[i] = rest % 7;
                    rest /= 7;
                }
                boolean less = best == null || Arrays.stream(starts).sum() < Arrays.stream(best).sum();
                if (less && isSafe(who, starts)) {
                    best = starts;
                }
            }
            return best;
        }

        boolean isSafe(List<Integer> who, int[] starts) {
            Snap at = now;
            for (int t = 0; t < 40; t++) {
                for (int i = 0; i < starts.length; i++) {
                    Car c = at.cars().get(who.get(i));
                    if (starts[i] == t && !c.caught()) {
                        at = with(at, who.get(i), standing(c, lack(who.get(i))));
                    }
                }
                at = step(at, null);
                if (bits(at) != bits(now)) {
                    return false;
                }
            }
            return true;
        }

        int starts(int w) {
            if (w != -1 && !isWagon(w)) {
                return -1;
            }
            List<Integer> who = lacking();
            int[] best = bestStarts(who);
            if (best == null) {
                return -9;
            }
            return w == -1 ? Arrays.stream(best).sum() : who.contains(w) ? best[who.indexOf(w)] : 0;
        }

        int bars() {
            if (bestStarts(lacking()) != null) {
                return -9;
            }
            for (Integer w : lacking()) {
                List<Integer> others = lacking();
                others.remove(w);
                if (bestStarts(others) != null) {
                    return w;
                }
            }
            return -9;
        }

        int pieces(int rail, int n) {
            if (!in(rail, 0, 2) || !in(n, 0, 60)) {
                return -1;
            }
            int most = 0;
            for (int t = 0; t <= n; t++) {
                int[] ways = after(now, t).cars().stream().filter(c -> c.rail() == rail).mapToInt(Car::way).sorted().toArray();
                most = ways.length == 0 ? most : Math.max(most, ways[ways.length - 1] - ways[0] + 1);
            }
            return most;
        }

        int met(int p, int m) {
            if (!in(p, 0, world.n - 1) || !in(m, 0, 99)) {
                return -1;
            }
            Snap then = after(world.first(), m);
            int bits = 0;
            for (int w = 0; w < then.cars().size(); w++) {
                Car c = then.cars().get(w);
                bits += c.way() % world.n == p && !c.caught() ? 1 << w : 0;
            }
            return bits;
        }

        // ---- chance: every run by itself

        long runs(int w, int way, int left, int minute, int x, int n, int lead) {
            if (n == 0) {
                return 1;
            }
            int less = Math.max(0, left - 1);
            int wayOn = less == 0 ? way + 1 : way;
            int leftOn = less == 0 ? world.costs[wayOn % world.n] + paces[w] : less;
            int sun = sunAt(minute + 1, lead);
            long sum = 0;
            if (x > 0 && way > sun) {
                sum += x * runs(w, way, left, minute + 1, x, n - 1, lead);
            }
            if (x < 10 && wayOn > sun) {
                sum += (10 - x) * runs(w, wayOn, leftOn, minute + 1, x, n - 1, lead);
            }
            return sum;
        }

        long odds(int w, int x, int n, int what) {
            if (!isWagon(w) || !in(x, 0, 10) || !in(n, 0, 12) || !in(what, 0, 1)) {
                return -1;
            }
            Car c = now.cars().get(w);
            if (c.caught()) {
                return -2;
            }
            BigInteger upper = BigInteger.valueOf(runs(w, c.way(), c.left(), now.minute(), x, n, world.lead));
            BigInteger lower = BigInteger.TEN.pow(n);
            return (what == 0 ? upper : lower).divide(upper.gcd(lower)).longValueExact();
        }

        int keepAhead(int w, int x, int n, int c) {
            if (!isWagon(w) || !in(x, 0, 10) || !in(n, 0, 12) || !in(c, 0, 10)) {
                return -1;
            }
            Car car = now.cars().get(w);
            if (car.caught()) {
                return -2;
            }
            int best = -9;
            for (int d = 0; d <= 20; d++) {
                BigInteger upper = BigInteger.valueOf(runs(w, car.way(), car.left(), now.minute(), x, n, world.lead - d));
                BigInteger due = BigInteger.TEN.pow(n).multiply(BigInteger.valueOf(c));
                best = upper.multiply(BigInteger.TEN).compareTo(due) >= 0 ? d : best;
            }
            return best;
        }

        long mark(int kind, int w) {
            if (!in(kind, 0, 5) || !isWagon(w)) {
                return -1000000;
            }
            Car c = now.cars().get(w);
            long[] traces = {1, 11, 101, 1011, 10101, 100001};
            int forge = c.way() + c.done();
            int chapel = c.way() - paces[w];
            int[] marks = {c.way(), forge, chapel, 2 * forge, chapel + c.rail(),
                2 * c.way() - sunAt(now.minute(), world.lead)};
            trace += traces[kind];
            return marks[kind];
        }
    }
}
