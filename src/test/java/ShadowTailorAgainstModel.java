import java.math.BigInteger;
import java.util.ArrayDeque;
import java.util.ArrayList;
import java.util.Arrays;
import java.util.Collections;
import java.util.List;
import java.util.Map;
import java.util.Random;
import java.util.Set;
import java.util.TreeMap;
import java.util.TreeSet;
import java.util.regex.Matcher;
import java.util.regex.Pattern;

/** Random runs of calls, answered by the class and by a model that reads the document plainly and tries everything. */
public final class ShadowTailorAgainstModel {
    private static final int BAD = -1, NO = -2, FULL = -3, NONE = -4;
    private static final int RUNS = 1500;
    private static final int CALLS = 512;
    private static final int MOST_SHOWN = 20;
    /** Fewer answers of a kind than these would not say much of it. */
    private static final int FEWEST = 100;
    /** The kinds of answers that the document tells of each call; a plain one (ok) has each. */
    private static final String[] KINDS = {"write ok BAD FULL", "wipe ok", "fault ok NONE", "lay ok NO", "person ok BAD", "where ok BAD",
        "shadow ok BAD NONE", "covers ok BAD", "stands ok BAD", "wear ok BAD", "alter ok BAD", "walk ok BAD FULL", "undo ok NO",
        "first ok BAD NONE", "broken ok NONE", "taken ok BAD NONE", "seen ok BAD FULL", "forget ok", "whose ok", "look ok BAD NONE",
        "cut ok BAD NONE", "fittings ok BAD NONE", "watchers ok BAD NONE", "poplar ok BAD", "light ok BAD", "clouds ok BAD",
        "day ok BAD NONE", "keep ok FULL", "back ok NO", "count ok BAD"};

    private static final Map<String, Integer> ANSWERS = new TreeMap<>();

    public static void main(String[] args) {
        int wrong = 0;
        for (int run = 0; run < RUNS && wrong < MOST_SHOWN; run++) {
            wrong += oneRun(run);
        }
        wrong += wrong == 0 ? rareKinds() : 0;
        System.out.println(wrong == 0 ? RUNS + " runs are as the model's" : "answers are not as the model's");
        if (wrong != 0) {
            System.exit(1);
        }
    }

    private static int oneRun(int run) {
        ShadowTailor program = new ShadowTailor();
        Model model = new Model();
        Calls calls = new Calls(new Random(run), model);
        for (int n = 0; n < CALLS; n++) {
            calls.next();
            long got = calls.askProgram(program);
            long want = calls.askModel(model);
            ANSWERS.merge(calls.name + " " + kindOf(want), 1, Integer::sum);
            if (got != want) {
                System.out.println("run " + run + ", call " + n + ": " + calls + " answered " + got + ", due is " + want);
                return 1;
            }
        }
        return 0;
    }

    private static String kindOf(long answer) {
        return answer == BAD ? "BAD" : answer == NO ? "NO" : answer == FULL ? "FULL" : answer == NONE ? "NONE" : "ok";
    }

    /** How many kinds of answers came too seldom: the runs would look sound without having asked for them. */
    private static int rareKinds() {
        int rare = 0;
        for (String kinds : KINDS) {
            String[] words = kinds.split(" ");
            for (int k = 1; k < words.length; k++) {
                int many = ANSWERS.getOrDefault(words[0] + " " + words[k], 0);
                if (many < FEWEST) {
                    rare++;
                    System.out.println(words[0] + " answered " + words[k] + " " + many + " times alone");
                }
            }
        }
        return rare;
    }

    /** Draws calls, most of them such as can be answered. */
    private static final class Calls {
        private static final String[] NAMES = {"write", "wipe", "fault", "lay", "person", "where", "shadow", "covers", "stands",
            "wear", "alter", "walk", "undo", "first", "broken", "taken", "seen", "forget", "whose", "look", "cut", "fittings",
            "watchers", "poplar", "light", "clouds", "day", "keep", "back", "count"};
        private final Random random;
        private final Model model;
        /** What a run asks for more often than the rest, so that it comes far with it. */
        private final String[] favourites = new String[4];
        private String toWrite = "";
        private boolean isWritten;
        private String name;
        private final int[] a = new int[5];

        Calls(Random random, Model model) {
            this.random = random;
            this.model = model;
            for (int n = 0; n < favourites.length; n++) {
                favourites[n] = NAMES[4 + random.nextInt(NAMES.length - 4)];
            }
            toWrite = random.nextInt(8) == 0 ? "" : someText();
        }

        void next() {
            set();
            if (!toWrite.isEmpty()) {
                name = "write";
                a[0] = random.nextInt(200) == 0 ? any(127, 300) : toWrite.charAt(0);
                toWrite = toWrite.substring(a[0] == toWrite.charAt(0) ? 1 : 0);
                isWritten = toWrite.isEmpty();
                return;
            }
            if (isWritten) {
                isWritten = false;
                name = random.nextInt(8) == 0 ? "fault" : "lay";
                return;
            }
            name = random.nextBoolean() ? favourites[random.nextInt(favourites.length)] : NAMES[random.nextInt(NAMES.length)];
            if (name.equals("wipe") && random.nextInt(3) != 0) {
                toWrite = someText();
            } else if (name.equals("write")) {
                a[0] = any(32, 126);
                return;
            }
            draw();
        }

        private int any(int least, int most) {
            int odd = random.nextInt(40);
            if (odd == 0) {
                return random.nextInt();
            }
            if (odd == 1) {
                return random.nextBoolean() ? least - 1 : most + 1;
            }
            return least + random.nextInt(most - least + 1);
        }

        private int person() {
            return any(0, model.laid.persons.size() - 1);
        }

        private void draw() {
            switch (name) {
                case "person" -> set(person(), any(0, 2));
                case "where", "stands", "wear" -> set(person(), any(6, 18));
                case "shadow" -> set(person(), any(6, 18), any(0, 2));
                case "covers" -> set(any(0, 60), any(6, 18));
                case "alter" -> set(person(), any(0, 29));
                case "walk" -> set(person(), any(6, 18), any(0, 60));
                case "first" -> set(any(0, 2));
                case "taken" -> drawHours(0);
                case "seen" -> drawSeen();
                case "look" -> set(any(0, 1));
                case "cut" -> set(any(-2, Math.max(0, model.laid.remnants.size() - 1)));
                case "fittings" -> set(any(-2, Math.max(0, model.laid.fittings.size() - 1)));
                case "watchers" -> set(any(6, 18), any(0, 1));
                case "poplar" -> set(any(1, 99), any(1, 9));
                case "light" -> set(any(6, 18));
                case "clouds" -> drawHours(any(0, 10));
                case "day" -> set(any(0, 9999), any(0, 1));
                case "count" -> set(any(0, 9));
                default -> set();
            }
        }

        private void drawHours(int chance) {
            int one = any(6, 18);
            int other = random.nextInt(10) == 0 ? any(6, 18) : Math.max(one, any(6, 18));
            set(person(), one, other, chance, any(0, 1));
        }

        /** Mostly where a shadow does end, of one person for a while, so that there are some whose it can be. */
        private void drawSeen() {
            int t = any(6, 18);
            int left = model.whose();
            if (t < 6 || t > 18 || left == 0 || random.nextInt(6) == 0) {
                set(t, any(0, 140));
            } else {
                set(t, model.laid.end(Integer.numberOfTrailingZeros(left), t) + 40);
            }
        }

        private void set(int... numbers) {
            Arrays.fill(a, 0);
            System.arraycopy(numbers, 0, a, 0, numbers.length);
        }

        private int upTo(int most) {
            return random.nextInt(most + 1);
        }

        /** How many items of a sort: often as many as there may be, seldom one more. */
        private int many(int least, int most) {
            int odd = random.nextInt(30);
            return odd == 0 ? most + 1 : odd < 10 ? most : least + upTo(most - least);
        }

        private String someText() {
            List<String> items = new ArrayList<>();
            int persons = many(1, 6);
            int width = random.nextBoolean() ? 60 : 15;
            int height = random.nextInt(4) == 0 ? 0 : 8;
            for (int n = 0; n < persons; n++) {
                items.add("p" + upTo(width) + "," + (1 + upTo(height)) + "," + upTo(3) + "," + (random.nextBoolean() ? 0 : upTo(20)) + ";");
            }
            List<String> rest = new ArrayList<>();
            addWalksAndLaws(rest, persons, width);
            addStock(rest);
            // Of a text that is too long the items that are left out are of all sorts.
            Collections.shuffle(rest, random);
            items.addAll(rest);
            while (String.join("", items).length() > 200 && random.nextInt(100) != 0) {
                items.remove(items.size() - 1);
            }
            if (random.nextInt(10) == 0) {
                Collections.shuffle(items, random);
            }
            StringBuilder text = new StringBuilder(String.join("", items));
            if (random.nextInt(8) == 0) {
                int place = random.nextInt(text.length());
                text.setCharAt(place, "pwlrof0123456789,; ~".charAt(random.nextInt(20)));
            }
            return text.toString();
        }

        private void addWalksAndLaws(List<String> items, int persons, int width) {
            for (int n = many(0, random.nextBoolean() ? 2 : 9); n > 0; n--) {
                items.add("w" + upTo(persons - 1) + "," + (6 + upTo(12)) + "," + upTo(width) + ";");
            }
            for (int n = many(0, random.nextBoolean() ? 2 : 6); n > 0; n--) {
                items.add("l" + upTo(persons - 1) + "," + (6 + upTo(12)) + "," + upTo(25) + ";");
            }
        }

        private void addStock(List<String> items) {
            int length = random.nextBoolean() ? 39 : 6;
            for (int n = many(0, 7); n > 0; n--) {
                items.add("r" + (1 + upTo(length)) + ";");
            }
            int ordered = random.nextInt(4) == 0 ? 59 : length;
            for (int n = many(0, 3); n > 0; n--) {
                items.add("o" + (1 + upTo(ordered)) + ";");
            }
            int due = random.nextBoolean() ? 29 : 11;
            for (int n = many(0, 6); n > 0; n--) {
                items.add("f" + (1 + upTo(8)) + "," + (1 + upTo(due)) + ";");
            }
        }

        long askProgram(ShadowTailor x) {
            return switch (name) {
                case "write" -> x.write(a[0]);
                case "wipe" -> x.wipe();
                case "fault" -> x.fault();
                case "lay" -> x.lay();
                case "person" -> x.person(a[0], a[1]);
                case "where" -> x.where(a[0], a[1]);
                case "shadow" -> x.shadow(a[0], a[1], a[2]);
                case "covers" -> x.covers(a[0], a[1]);
                case "stands" -> x.stands(a[0], a[1]);
                case "wear" -> x.wear(a[0], a[1]);
                case "alter" -> x.alter(a[0], a[1]);
                case "walk" -> x.walk(a[0], a[1], a[2]);
                case "undo" -> x.undo();
                case "first" -> x.first(a[0]);
                case "broken" -> x.broken();
                case "taken" -> x.taken(a[0], a[1], a[2]);
                case "seen" -> x.seen(a[0], a[1]);
                case "forget" -> x.forget();
                case "whose" -> x.whose();
                case "look" -> x.look(a[0]);
                case "cut" -> x.cut(a[0]);
                case "fittings" -> x.fittings(a[0]);
                case "watchers" -> x.watchers(a[0], a[1]);
                case "poplar" -> x.poplar(a[0], a[1]);
                case "light" -> x.light(a[0]);
                case "clouds" -> x.clouds(a[0], a[1], a[2], a[3], a[4]);
                case "day" -> x.day(a[0], a[1]);
                case "keep" -> x.keep();
                case "back" -> x.back();
                default -> x.count(a[0]);
            };
        }

        long askModel(Model x) {
            return switch (name) {
                case "write" -> x.write(a[0]);
                case "wipe" -> x.wipe();
                case "fault" -> x.fault(new Laid());
                case "lay" -> x.lay();
                case "person" -> x.person(a[0], a[1]);
                case "where" -> x.isBad(a[0], a[1]) ? BAD : x.laid.cell(a[0], a[1]);
                case "shadow" -> x.shadow(a[0], a[1], a[2]);
                case "covers" -> x.covers(a[0], a[1]);
                case "stands" -> x.isBad(a[0], a[1]) ? BAD : x.laid.standers(a[0], a[1]);
                case "wear" -> x.wear(a[0], a[1]);
                case "alter" -> x.alter(a[0], a[1]);
                case "walk" -> x.walk(a[0], a[1], a[2]);
                case "undo" -> x.undo();
                case "first" -> x.first(a[0]);
                case "broken" -> x.laid.broken();
                case "taken" -> x.taken(a[0], a[1], a[2]);
                case "seen" -> x.seen(a[0], a[1]);
                case "forget" -> x.forget();
                case "whose" -> x.whose();
                case "look" -> x.look(a[0]);
                case "cut" -> x.cut(a[0]);
                case "fittings" -> x.fittings(a[0]);
                case "watchers" -> x.watchers(a[0], a[1]);
                case "poplar" -> x.poplar(a[0], a[1]);
                case "light" -> x.light(a[0]);
                case "clouds" -> x.clouds(a[0], a[1], a[2], a[3], a[4]);
                case "day" -> x.day(a[0], a[1]);
                case "keep" -> x.keep();
                case "back" -> x.back();
                default -> x.count(a[0]);
            };
        }

        @Override
        public String toString() {
            return name + Arrays.toString(a);
        }
    }

    /** What a text tells, as lists of the items' numbers. */
    private static final class Laid {
        private final List<int[]> persons = new ArrayList<>();
        private List<int[]> walks = new ArrayList<>();
        private final List<int[]> laws = new ArrayList<>();
        private final List<int[]> remnants = new ArrayList<>();
        private final List<int[]> orders = new ArrayList<>();
        private final List<int[]> fittings = new ArrayList<>();

        int cell(int i, int t) {
            int cell = persons.get(i)[0];
            for (int hour = 6; hour <= t; hour++) {
                for (int[] walk : walks) {
                    if (walk[0] == i && walk[1] == hour) {
                        cell = walk[2];
                    }
                }
            }
            return cell;
        }

        int length(int i, int t) {
            int[] p = persons.get(i);
            int hours = t < 12 ? 12 - t : t - 12;
            int length = p[1] * hours / 2;
            if (p[2] == 2) {
                length += length;
            }
            if (p[2] == 3 && (t == 6 || t == 7 || t == 17 || t == 18)) {
                length++;
            }
            return length - p[3] < 0 ? 0 : length - p[3];
        }

        boolean isLower(int i, int t) {
            return (persons.get(i)[2] == 1 ? Math.min(18, t + 3) : t) < 12;
        }

        TreeSet<Integer> cells(int i, int t, int from) {
            TreeSet<Integer> cells = new TreeSet<>();
            for (int n = 1; n <= length(i, t); n++) {
                cells.add(isLower(i, t) ? from - n : from + n);
            }
            return cells;
        }

        TreeSet<Integer> cells(int i, int t) {
            return cells(i, t, cell(i, t));
        }

        int end(int i, int t) {
            TreeSet<Integer> cells = cells(i, t);
            return cells.isEmpty() ? cell(i, t) : isLower(i, t) ? cells.first() : cells.last();
        }

        int standers(int i, int t) {
            int bits = 0;
            Set<Integer> cells = cells(i, t);
            for (int j = 0; j < persons.size(); j++) {
                if (j != i && cells.contains(cell(j, t))) {
                    bits += 1 << j;
                }
            }
            return bits;
        }

        int broken() {
            for (int n = 0; n < laws.size(); n++) {
                if (length(laws.get(n)[0], laws.get(n)[1]) > laws.get(n)[2]) {
                    return n;
                }
            }
            return NONE;
        }
    }

    private static final class Kept {
        private final List<Integer> taken = new ArrayList<>();
        private final List<int[]> walks;

        Kept(Laid laid) {
            for (int[] p : laid.persons) {
                taken.add(p[3]);
            }
            walks = new ArrayList<>(laid.walks);
        }

        void restore(Laid laid) {
            for (int i = 0; i < taken.size(); i++) {
                laid.persons.get(i)[3] = taken.get(i);
            }
            laid.walks = new ArrayList<>(walks);
        }
    }

    private static final class Model {
        private static final Pattern ITEM = Pattern.compile("(?:[wl]\\d\\d?,\\d\\d?,\\d\\d?|p\\d\\d?,\\d\\d?,\\d\\d?,\\d\\d?"
            + "|[ro]\\d\\d?|f\\d\\d?,\\d\\d?);");
        private String text = "p10,4,0,0;p16,2,1,0;p30,6,2,3;p33,3,3,1;w1,14,12;l0,8,6;l2,16,9;r5;r3;r8;r2;o6;o9;f2,4;f3,3;f1,6;";
        private Laid laid = new Laid();
        private final List<int[]> sightings = new ArrayList<>();
        private final ArrayDeque<Kept> changes = new ArrayDeque<>();
        private final ArrayDeque<Kept> kept = new ArrayDeque<>();

        Model() {
            lay();
            text = "";
        }

        boolean isBad(int i, int t) {
            return i < 0 || i >= laid.persons.size() || t < 6 || t > 18;
        }

        int write(int letter) {
            if (letter < 32 || letter > 126) {
                return BAD;
            }
            if (text.length() == 200) {
                return FULL;
            }
            text += (char) letter;
            return text.length();
        }

        int wipe() {
            int was = text.length();
            text = "";
            return was;
        }

        int fault(Laid into) {
            Matcher matcher = ITEM.matcher(text);
            int place = 0;
            while (place < text.length()) {
                matcher.region(place, text.length());
                if (!matcher.lookingAt()) {
                    return place;
                }
                String item = matcher.group();
                int[] n = Arrays.stream(item.substring(1, item.length() - 1).split(",")).mapToInt(Integer::parseInt).toArray();
                if (!isRight(item.charAt(0), n, into)) {
                    return place;
                }
                place = matcher.end();
            }
            return NONE;
        }

        private static boolean isRight(char letter, int[] n, Laid into) {
            List<int[]> list;
            int most;
            boolean isRight;
            int people = into.persons.size();
            switch (letter) {
                case 'p' -> {
                    list = into.persons;
                    most = 6;
                    isRight = n[0] <= 60 && n[1] >= 1 && n[1] <= 9 && n[2] <= 3 && n[3] <= 20;
                }
                case 'w' -> {
                    list = into.walks;
                    most = 9;
                    isRight = n[0] < people && n[1] >= 6 && n[1] <= 18 && n[2] <= 60;
                }
                case 'l' -> {
                    list = into.laws;
                    most = 6;
                    isRight = n[0] < people && n[1] >= 6 && n[1] <= 18 && n[2] <= 60;
                }
                case 'r' -> {
                    list = into.remnants;
                    most = 7;
                    isRight = n[0] >= 1 && n[0] <= 40;
                }
                case 'o' -> {
                    list = into.orders;
                    most = 3;
                    isRight = n[0] >= 1 && n[0] <= 60;
                }
                default -> {
                    list = into.fittings;
                    most = 6;
                    isRight = n[0] >= 1 && n[0] <= 9 && n[1] >= 1 && n[1] <= 60;
                }
            }
            list.add(n);
            return isRight && list.size() <= most;
        }

        int lay() {
            Laid next = new Laid();
            if (fault(next) != NONE || next.persons.isEmpty()) {
                return NO;
            }
            laid = next;
            sightings.clear();
            changes.clear();
            kept.clear();
            return laid.persons.size();
        }

        int person(int i, int what) {
            if (isBad(i, 6) || what < 0 || what > 2) {
                return BAD;
            }
            return laid.persons.get(i)[what + 1] + (what == 2 ? 9 : 0);
        }

        int shadow(int i, int t, int what) {
            if (isBad(i, t) || what < 0 || what > 2) {
                return BAD;
            }
            TreeSet<Integer> cells = laid.cells(i, t);
            if (what == 0) {
                return cells.size();
            }
            return cells.isEmpty() ? NONE : 200 + (what == 1 ? cells.first() : cells.last());
        }

        int covers(int x, int t) {
            if (isBad(0, t) || x < 0 || x > 60) {
                return BAD;
            }
            int bits = 0;
            for (int i = 0; i < laid.persons.size(); i++) {
                bits += laid.cells(i, t).contains(x) ? 1 << i : 0;
            }
            return bits;
        }

        int wear(int i, int t) {
            if (isBad(i, t)) {
                return BAD;
            }
            int together = 0;
            for (int hour = 6; hour <= t; hour++) {
                together += Integer.bitCount(laid.standers(i, hour));
            }
            return together;
        }

        private void remember() {
            changes.addLast(new Kept(laid));
            if (changes.size() > 8) {
                changes.removeFirst();
            }
        }

        int alter(int i, int c) {
            if (isBad(i, 6) || c < 0 || c > 29) {
                return BAD;
            }
            remember();
            int was = laid.persons.get(i)[3] + 9;
            laid.persons.get(i)[3] = c - 9;
            return was;
        }

        int walk(int i, int t, int x) {
            if (isBad(i, t) || x < 0 || x > 60) {
                return BAD;
            }
            if (laid.walks.size() == 9) {
                return FULL;
            }
            remember();
            laid.walks.add(new int[] {i, t, x});
            return laid.walks.size();
        }

        int undo() {
            if (changes.isEmpty()) {
                return NO;
            }
            changes.removeLast().restore(laid);
            return changes.size();
        }

        int first(int what) {
            if (what < 0 || what > 2) {
                return BAD;
            }
            for (int t = 6; t <= 18; t++) {
                for (int i = 0; i < laid.persons.size(); i++) {
                    for (int j = 0; j < laid.persons.size(); j++) {
                        if ((laid.standers(i, t) & 1 << j) != 0) {
                            return new int[] {t, i, j}[what];
                        }
                    }
                }
            }
            return NONE;
        }

        int taken(int i, int a, int b) {
            if (isBad(i, a) || isBad(i, b) || b < a) {
                return BAD;
            }
            int[] p = laid.persons.get(i);
            int was = p[3];
            int least = NONE;
            for (int c = 0; c <= 20 && least == NONE; c++) {
                p[3] = c;
                boolean isRight = true;
                for (int t = a; t <= b; t++) {
                    isRight &= laid.standers(i, t) == 0;
                }
                for (int[] law : laid.laws) {
                    isRight &= law[0] != i || laid.length(i, law[1]) <= law[2];
                }
                least = isRight ? c : NONE;
            }
            p[3] = was;
            return least;
        }

        int seen(int t, int x) {
            if (isBad(0, t) || x < 0 || x > 140) {
                return BAD;
            }
            if (sightings.size() == 6) {
                return FULL;
            }
            sightings.add(new int[] {t, x - 40});
            return sightings.size();
        }

        int forget() {
            int were = sightings.size();
            sightings.clear();
            return were;
        }

        int whose() {
            int bits = 0;
            for (int i = 0; i < laid.persons.size(); i++) {
                int person = i;
                bits += sightings.stream().allMatch(s -> laid.end(person, s[0]) == s[1]) ? 1 << i : 0;
            }
            return bits;
        }

        int look(int what) {
            if (what < 0 || what > 1) {
                return BAD;
            }
            int bestHour = NONE;
            int fewest = NONE;
            for (int t = 18; t >= 6 && whose() != 0; t--) {
                int[] ends = new int[400];
                for (int i = 0; i < laid.persons.size(); i++) {
                    ends[laid.end(i, t) + 200] += whose() >> i & 1;
                }
                int most = Arrays.stream(ends).max().getAsInt();
                if (fewest == NONE || most <= fewest) {
                    fewest = most;
                    bestHour = t;
                }
            }
            return what == 0 ? bestHour : fewest;
        }

        int cut(int r) {
            int many = laid.remnants.size();
            int orders = laid.orders.size();
            if (r < -2 || r >= many) {
                return BAD;
            }
            int[] best = null;
            int ways = (int) Math.round(Math.pow(orders + 1, many));
            for (int way = 0; way < ways; way++) {
                int[] choice = new int[many];
                int rest = way;
                for (int n = many - 1; n >= 0; n--) {
                    choice[n] = rest % (orders + 1);
                    rest /= orders + 1;
                }
                int[] rated = rate(choice);
                if (rated != null && (best == null || rated[0] < best[0] || rated[0] == best[0] && rated[1] < best[1])) {
                    best = rated;
                }
            }
            return best == null ? NONE : r == -1 ? best[0] - orders : r == -2 ? best[1] : best[2 + r] == orders ? NONE : best[2 + r];
        }

        /** How many remnants a choice uses, its waste, the choice; null if an order is not made. */
        private int[] rate(int[] choice) {
            int orders = laid.orders.size();
            int[] made = new int[orders + 1];
            int used = 0;
            for (int n = 0; n < choice.length; n++) {
                made[choice[n]] += laid.remnants.get(n)[0];
                used += choice[n] < orders ? 1 : 0;
            }
            int waste = 0;
            for (int o = 0; o < orders; o++) {
                int over = made[o] - laid.orders.get(o)[0];
                if (over < 0) {
                    return null;
                }
                waste += over;
            }
            int[] rated = new int[choice.length + 2];
            rated[0] = used;
            rated[1] = waste;
            System.arraycopy(choice, 0, rated, 2, choice.length);
            return rated;
        }

        int fittings(int k) {
            int many = laid.fittings.size();
            if (k < -2 || k >= many && k > 0) {
                return BAD;
            }
            List<int[]> rated = new ArrayList<>();
            rateOrders(new ArrayList<>(), rated);
            rated.sort((one, other) -> Arrays.compare(one, other));
            return many == 0 ? NONE : k < 0 ? rated.get(0)[-k - 1] : rated.get(0)[2 + k];
        }

        private void rateOrders(List<Integer> begun, List<int[]> rated) {
            int many = laid.fittings.size();
            if (begun.size() == many) {
                int[] row = new int[many + 2];
                int clock = 0;
                for (int k = 0; k < many; k++) {
                    int[] fitting = laid.fittings.get(begun.get(k));
                    clock += fitting[0];
                    row[0] += clock > fitting[1] ? 1 : 0;
                    row[1] += clock > fitting[1] ? clock - fitting[1] : 0;
                    row[2 + k] = begun.get(k);
                }
                rated.add(row);
                return;
            }
            for (int f = 0; f < many; f++) {
                if (!begun.contains(f)) {
                    begun.add(f);
                    rateOrders(begun, rated);
                    begun.remove(begun.size() - 1);
                }
            }
        }

        int watchers(int t, int what) {
            if (isBad(0, t) || what < 0 || what > 1) {
                return BAD;
            }
            List<TreeSet<Integer>> shadows = new ArrayList<>();
            for (int i = 0; i < laid.persons.size(); i++) {
                if (laid.length(i, t) > 0) {
                    shadows.add(laid.cells(i, t));
                }
            }
            if (shadows.isEmpty()) {
                return NONE;
            }
            int many = mostApart(shadows);
            if (what == 0) {
                return many;
            }
            for (int lowest = 200; lowest > -200; lowest--) {
                if (canBeLowest(lowest, many, shadows)) {
                    return lowest + 200;
                }
            }
            return Integer.MIN_VALUE;
        }

        /** The most of these that share no cell two by two: as many as the fewest cells that find all, by duality. */
        private static int mostApart(List<TreeSet<Integer>> shadows) {
            int most = 0;
            for (int bits = 0; bits < 1 << shadows.size(); bits++) {
                Set<Integer> all = new TreeSet<>();
                int together = 0;
                for (int i = 0; i < shadows.size(); i++) {
                    if ((bits >> i & 1) == 1) {
                        all.addAll(shadows.get(i));
                        together += shadows.get(i).size();
                    }
                }
                most = all.size() == together ? Math.max(most, Integer.bitCount(bits)) : most;
            }
            return most;
        }

        private static boolean canBeLowest(int lowest, int many, List<TreeSet<Integer>> shadows) {
            List<TreeSet<Integer>> rest = new ArrayList<>();
            for (TreeSet<Integer> shadow : shadows) {
                if (!shadow.contains(lowest)) {
                    TreeSet<Integer> above = new TreeSet<>(shadow.tailSet(lowest));
                    if (above.isEmpty()) {
                        return false;
                    }
                    rest.add(above);
                }
            }
            return mostApart(rest) <= many - 1;
        }

        int poplar(int n, int m) {
            if (n < 1 || n > 99 || m < 1 || m > 9) {
                return BAD;
            }
            int[] stroke = new int[n + 1];
            for (int left = 1; left <= n; left++) {
                for (int k = 1; k <= Math.min(m, left); k++) {
                    if (left - k > 0 && stroke[left - k] == 0) {
                        stroke[left] = k;
                    }
                }
            }
            return stroke[n];
        }

        int light(int t) {
            if (isBad(0, t)) {
                return BAD;
            }
            Set<Integer> lit = new TreeSet<>();
            for (int x = 0; x <= 60; x++) {
                lit.add(x);
            }
            for (int i = 0; i < laid.persons.size(); i++) {
                lit.removeAll(laid.cells(i, t));
            }
            return lit.size();
        }

        long clouds(int i, int a, int b, int x, int part) {
            if (isBad(i, a) || isBad(i, b) || b < a || x < 0 || x > 10 || part < 0 || part > 1) {
                return BAD;
            }
            BigInteger above = BigInteger.ONE;
            BigInteger below = BigInteger.ONE;
            for (int t = a; t <= b; t++) {
                if (laid.standers(i, t) != 0) {
                    above = above.multiply(BigInteger.valueOf(x));
                    below = below.multiply(BigInteger.TEN);
                }
            }
            return (part == 0 ? above : below).divide(above.gcd(below)).longValueExact();
        }

        int day(int z, int what) {
            if (z < 0 || z > 9999 || what < 0 || what > 1) {
                return BAD;
            }
            int together = 0;
            int firstHour = NONE;
            for (int t = 6; t <= 18; t++) {
                for (int i = 0; i < laid.persons.size(); i++) {
                    for (int j = 0; j < laid.persons.size(); j++) {
                        if (i != j && laid.cells(i, t, drawn(z, t, i)).contains(drawn(z, t, j))) {
                            together++;
                            firstHour = firstHour == NONE ? t : firstHour;
                        }
                    }
                }
            }
            return what == 0 ? together : firstHour;
        }

        private static int drawn(int z, int t, int i) {
            BigInteger q = BigInteger.valueOf(7919L * z + 6151L * t + 3571L * i + 1);
            return q.modPow(BigInteger.TWO, BigInteger.valueOf(65521)).intValue() % 61;
        }

        int keep() {
            if (kept.size() == 2) {
                return FULL;
            }
            kept.addLast(new Kept(laid));
            return kept.size();
        }

        int back() {
            if (kept.isEmpty()) {
                return NO;
            }
            kept.removeLast().restore(laid);
            changes.clear();
            return kept.size();
        }

        int count(int what) {
            int[] counts = {laid.persons.size(), laid.walks.size(), laid.laws.size(), laid.remnants.size(), laid.orders.size(),
                laid.fittings.size(), sightings.size(), changes.size(), kept.size(), text.length()};
            return what < 0 || what >= counts.length ? BAD : counts[what];
        }
    }
}
