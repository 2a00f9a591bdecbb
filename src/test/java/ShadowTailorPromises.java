/** For each promise of the document: ordinary calls, the edges that it names, and wrong ones. */
public final class ShadowTailorPromises {
    private static final int BAD = -1, NO = -2, FULL = -3, NONE = -4;
    private static final int[] WRONG = {Integer.MIN_VALUE, Integer.MAX_VALUE, -1, -5};

    private static int promise;
    private static int wrong;
    private static int asked;

    private static void due(String call, long got, long want) {
        asked++;
        if (got != want) {
            wrong++;
            System.out.println("promise " + promise + ": " + call + " answered " + got + ", due is " + want);
        }
    }

    private static void writeAll(ShadowTailor x, String text) {
        for (int k = 0; k < text.length(); k++) {
            x.write(text.charAt(k));
        }
    }

    private static ShadowTailor laid(String text) {
        ShadowTailor x = new ShadowTailor();
        writeAll(x, text);
        due("laid " + text, x.fault(), NONE);
        x.lay();
        return x;
    }

    private static int faultOf(String text) {
        ShadowTailor x = new ShadowTailor();
        writeAll(x, text);
        return x.fault();
    }

    private static String times(String item, int many) {
        return item.repeat(many);
    }

    public static void main(String[] args) {
        newObject();
        write();
        wipe();
        fault();
        faultOfPersonsAndWalks();
        faultOfTheRest();
        lay();
        person();
        where();
        shadowOfKinds();
        shadowEdges();
        covers();
        stands();
        wear();
        alter();
        walk();
        undo();
        first();
        broken();
        taken();
        seen();
        forget();
        whose();
        look();
        cut();
        cutTies();
        fittings();
        watchers();
        poplar();
        light();
        clouds();
        day();
        keep();
        back();
        count();
        System.out.println(wrong == 0 ? asked + " answers are as due" : wrong + " answers are not as due");
        if (wrong != 0) {
            System.exit(1);
        }
    }

    private static void newObject() {
        promise = 1;
        ShadowTailor x = new ShadowTailor();
        int[] counts = {4, 1, 2, 4, 2, 3, 0, 0, 0, 0};
        for (int what = 0; what < counts.length; what++) {
            due("count(" + what + ")", x.count(what), counts[what]);
        }
        int[][] persons = {{4, 0, 9, 10}, {2, 1, 9, 16}, {6, 2, 12, 30}, {3, 3, 10, 33}};
        for (int i = 0; i < 4; i++) {
            for (int what = 0; what < 3; what++) {
                due("person(" + i + ", " + what + ")", x.person(i, what), persons[i][what]);
            }
            due("where(" + i + ", 6)", x.where(i, 6), persons[i][3]);
        }
        due("where(1, 14)", x.where(1, 14), 12);
        due("fault()", x.fault(), NONE);
        due("lay()", x.lay(), NO);
        due("undo()", x.undo(), NO);
        due("back()", x.back(), NO);
        due("forget()", x.forget(), 0);
        due("wipe()", x.wipe(), 0);
        due("count(0)", x.count(0), 4);
    }

    private static void write() {
        promise = 2;
        ShadowTailor x = new ShadowTailor();
        for (int letter : WRONG) {
            due("write(" + letter + ")", x.write(letter), BAD);
        }
        due("write(31)", x.write(31), BAD);
        due("write(127)", x.write(127), BAD);
        due("write(65536 + 112)", x.write(65536 + 112), BAD);
        due("write(32)", x.write(32), 1);
        due("write(126)", x.write(126), 2);
        for (int n = 3; n <= 200; n++) {
            due("write(59)", x.write(59), n);
        }
        due("write(59) full", x.write(59), FULL);
        due("write(31) full", x.write(31), BAD);
        due("count(9)", x.count(9), 200);
        x.wipe();
        due("write(112)", x.write(112), 1);
    }

    private static void wipe() {
        promise = 3;
        ShadowTailor x = new ShadowTailor();
        due("wipe()", x.wipe(), 0);
        writeAll(x, "xyz");
        due("wipe()", x.wipe(), 3);
        due("wipe()", x.wipe(), 0);
        due("count(9)", x.count(9), 0);
        due("fault()", x.fault(), NONE);
        writeAll(x, "p1,1,0,0;");
        x.lay();
        due("wipe()", x.wipe(), 9);
        due("count(0) stays", x.count(0), 1);
    }

    private static void fault() {
        promise = 4;
        due("fault of none", faultOf(""), NONE);
        due("fault of r5;", faultOf("r5;"), NONE);
        due("fault of r05;", faultOf("r05;"), NONE);
        due("fault of the text at first", faultOf("p10,4,0,0;p16,2,1,0;p30,6,2,3;p33,3,3,1;w1,14,12;"
            + "l0,8,6;l2,16,9;r5;r3;r8;r2;o6;o9;f2,4;f3,3;f1,6;"), NONE);
        String[] wrongItems = {"r", "r5", "r;", "r5,", "r,5;", "r 5;", "r5 ;", "r005;", "r5,5;", "r-1;", "R5;", "5;", ";",
            "x5;", " r5;", "rr5;", "p1,1,0;", "p1,1,0,0,0;", "p1,1,0,0", "p1;1,0,0;", "p,1,0,0;", "p1,1,0,;", "f1;", "f1,1,1;",
            "o;", "o1,1;", "r/;", "r:;", "p1,1,,0;"};
        for (String item : wrongItems) {
            due("fault of " + item, faultOf(item), 0);
            due("fault of r5;p0,1,0,0; and " + item, faultOf("r5;p0,1,0,0;" + item), 12);
            due("fault of " + item + " and more", faultOf("o7;" + item + "r5;"), 3);
        }
        due("fault of w0,6; behind a person", faultOf("p0,1,0,0;w0,6;"), 9);
        due("fault of w0,6,1,1; behind a person", faultOf("p0,1,0,0;w0,6,1,1;"), 9);
        due("fault of l0,6; behind a person", faultOf("p0,1,0,0;l0,6;"), 9);
        due("fault, the first of two", faultOf("p0,1,0,0;r0;o0;"), 9);
        ShadowTailor x = new ShadowTailor();
        writeAll(x, "p1,1,0,0;r");
        due("fault()", x.fault(), 9);
        due("count(0) stays", x.count(0), 4);
        due("count(9) stays", x.count(9), 10);
        writeAll(x, "7;");
        due("fault()", x.fault(), NONE);
        due("count(0) stays", x.count(0), 4);
        x.wipe();
        writeAll(x, "p1,1,0,0");
        due("fault() without letters that are wiped", x.fault(), 0);
        due("fault at the end of the longest text", faultOf("p1,1,0,0;" + times("f1,1;", 6) + times("w0,6,0;", 9)
            + times("l0,6,0;", 6) + times("r1;", 7) + times("o10;", 3) + times("p1,1,0,0;", 2) + "p1,1,0,0"), 195);
    }

    private static void faultOfPersonsAndWalks() {
        promise = 4;
        String[] right = {"p0,1,0,0;", "p60,9,3,20;", "p00,01,00,00;", "p5,5,2,5;"};
        for (String item : right) {
            due("fault of " + item, faultOf(item), NONE);
        }
        String[] wrongItems = {"p61,1,0,0;", "p0,0,0,0;", "p0,10,0,0;", "p0,1,4,0;", "p0,1,0,21;", "p99,1,0,0;"};
        for (String item : wrongItems) {
            due("fault of " + item, faultOf(item), 0);
        }
        due("fault of 6 persons", faultOf(times("p1,1,0,0;", 6)), NONE);
        due("fault of 7 persons", faultOf(times("p1,1,0,0;", 7)), 54);
        String two = "p1,1,0,0;p1,1,0,0;";
        String[] rightBehind = {"w0,6,0;", "w1,18,60;", "w1,6,7;w0,6,7;", "l0,6,0;", "l1,18,60;", "w01,06,07;"};
        for (String item : rightBehind) {
            due("fault of two and " + item, faultOf(two + item), NONE);
        }
        String[] wrongBehind = {"w2,6,0;", "w0,5,0;", "w0,19,0;", "w0,6,61;", "l2,6,0;", "l0,5,0;", "l0,19,0;", "l0,6,61;"};
        for (String item : wrongBehind) {
            due("fault of two and " + item, faultOf(two + item), 18);
        }
        due("fault of a walk ahead of its person", faultOf("p1,1,0,0;w1,6,0;p1,1,0,0;"), 9);
        due("fault of a law ahead of its person", faultOf("l0,6,0;p1,1,0,0;"), 0);
        due("fault of 9 walks", faultOf(two + times("w0,6,0;", 9)), NONE);
        due("fault of 10 walks", faultOf(two + times("w0,6,0;", 10)), 18 + 63);
        due("fault of 6 laws", faultOf(two + times("l0,6,0;", 6)), NONE);
        due("fault of 7 laws", faultOf(two + times("l0,6,0;", 7)), 18 + 42);
    }

    private static void faultOfTheRest() {
        promise = 4;
        for (String item : new String[] {"r1;", "r40;", "o1;", "o60;", "f1,1;", "f9,60;", "o41;"}) {
            due("fault of " + item, faultOf(item), NONE);
        }
        for (String item : new String[] {"r0;", "r41;", "o0;", "o61;", "f0,1;", "f10,1;", "f1,0;", "f1,61;"}) {
            due("fault of " + item, faultOf(item), 0);
        }
        due("fault of 7 remnants", faultOf(times("r1;", 7)), NONE);
        due("fault of 8 remnants", faultOf(times("r1;", 8)), 21);
        due("fault of 3 orders", faultOf(times("o1;", 3)), NONE);
        due("fault of 4 orders", faultOf(times("o1;", 4)), 9);
        due("fault of 6 fittings", faultOf(times("f1,1;", 6)), NONE);
        due("fault of 7 fittings", faultOf(times("f1,1;", 7)), 30);
    }

    private static void lay() {
        promise = 5;
        ShadowTailor x = new ShadowTailor();
        x.seen(8, 49);
        x.alter(0, 3);
        x.keep();
        writeAll(x, "r7;");
        due("lay() without a person", x.lay(), NO);
        writeAll(x, "p5,3,0,1;p");
        due("lay() with a fault", x.lay(), NO);
        due("count(0) stays", x.count(0), 4);
        due("count(6) stays", x.count(6), 1);
        due("count(7) stays", x.count(7), 1);
        due("count(8) stays", x.count(8), 1);
        due("person(0, 2) stays", x.person(0, 2), 3);
        due("cut(-1) stays", x.cut(-1), 2);
        due("fittings(-1) stays", x.fittings(-1), 1);
        writeAll(x, "7,2,3,4;");
        due("lay()", x.lay(), 2);
        int[] counts = {2, 0, 0, 1, 0, 0, 0, 0, 0, 21};
        for (int what = 0; what < counts.length; what++) {
            due("count(" + what + ")", x.count(what), counts[what]);
        }
        due("where(1, 18)", x.where(1, 18), 7);
        due("undo()", x.undo(), NO);
        due("back()", x.back(), NO);
        due("cut(-1)", x.cut(-1), 0);
        due("cut(0)", x.cut(0), NONE);
        due("fittings(0)", x.fittings(0), NONE);
        x.alter(0, 0);
        x.walk(0, 6, 60);
        due("lay() again", x.lay(), 2);
        layAnew();
        due("person(0, 2) as in the text", x.person(0, 2), 10);
        due("where(0, 6) as in the text", x.where(0, 6), 5);
        due("undo() again", x.undo(), NO);
    }

    private static void layAnew() {
        ShadowTailor x = laid("p0,1,0,0;r5;r6;o6;f3,3;f1,1;");
        due("cut(-2) ahead of lay()", x.cut(-2), 0);
        due("fittings(-2) ahead of lay()", x.fittings(-2), 1);
        x.wipe();
        writeAll(x, "p0,1,0,0;r8;r9;o6;f3,1;f1,1;");
        due("lay()", x.lay(), 1);
        due("cut(-2) behind lay()", x.cut(-2), 2);
        due("cut(0) behind lay()", x.cut(0), 0);
        due("fittings(-2) behind lay()", x.fittings(-2), 3);
        due("fittings(0) behind lay()", x.fittings(0), 1);
    }

    private static void person() {
        promise = 6;
        ShadowTailor x = laid("p0,9,3,20;p60,1,0,0;");
        due("person(0, 0)", x.person(0, 0), 9);
        due("person(0, 1)", x.person(0, 1), 3);
        due("person(0, 2)", x.person(0, 2), 29);
        due("person(1, 0)", x.person(1, 0), 1);
        due("person(1, 1)", x.person(1, 1), 0);
        due("person(1, 2)", x.person(1, 2), 9);
        x.alter(1, 0);
        due("person(1, 2) let out", x.person(1, 2), 0);
        due("person(2, 0)", x.person(2, 0), BAD);
        due("person(0, 3)", x.person(0, 3), BAD);
        for (int number : WRONG) {
            due("person(" + number + ", 0)", x.person(number, 0), BAD);
            due("person(0, " + number + ")", x.person(0, number), BAD);
        }
    }

    private static void where() {
        promise = 7;
        ShadowTailor x = laid("p5,1,0,0;p6,1,0,0;w0,10,20;w0,8,30;w0,10,40;w1,12,50;w0,18,60;");
        int[] cells = {5, 5, 30, 30, 40, 40, 40, 40, 40, 40, 40, 40, 60};
        for (int t = 6; t <= 18; t++) {
            due("where(0, " + t + ")", x.where(0, t), cells[t - 6]);
            due("where(1, " + t + ")", x.where(1, t), t < 12 ? 6 : 50);
        }
        x.walk(0, 8, 0);
        due("where(0, 8) told anew", x.where(0, 8), 0);
        due("where(0, 10)", x.where(0, 10), 40);
        x.walk(0, 6, 1);
        due("where(0, 6) told anew", x.where(0, 6), 1);
        due("where(0, 5)", x.where(0, 5), BAD);
        due("where(0, 19)", x.where(0, 19), BAD);
        due("where(2, 6)", x.where(2, 6), BAD);
        for (int number : WRONG) {
            due("where(" + number + ", 6)", x.where(number, 6), BAD);
            due("where(0, " + number + ")", x.where(0, number), BAD);
        }
    }

    private static void shadowOfKinds() {
        promise = 8;
        ShadowTailor x = laid("p20,5,0,0;p20,5,1,0;p20,5,2,0;p20,5,3,0;");
        int[] own = {15, 12, 10, 7, 5, 2, 0, 2, 5, 7, 10, 12, 15};
        for (int t = 6; t <= 18; t++) {
            int seam = t < 8 || t > 16 ? 1 : 0;
            int[] lengths = {own[t - 6], own[t - 6], 2 * own[t - 6], own[t - 6] + seam};
            for (int i = 0; i < 4; i++) {
                boolean isLower = t < (i == 1 ? 9 : 12);
                int low = isLower ? 220 - lengths[i] : 221;
                int high = isLower ? 219 : 220 + lengths[i];
                String call = "shadow(" + i + ", " + t + ", ";
                due(call + "0)", x.shadow(i, t, 0), lengths[i]);
                due(call + "1)", x.shadow(i, t, 1), lengths[i] == 0 ? NONE : low);
                due(call + "2)", x.shadow(i, t, 2), lengths[i] == 0 ? NONE : high);
            }
        }
    }

    private static void shadowEdges() {
        promise = 8;
        ShadowTailor x = laid("p0,9,2,0;p60,9,2,0;p30,2,0,4;p30,1,3,1;");
        x.alter(0, 0);
        x.alter(1, 0);
        due("shadow(0, 6, 0)", x.shadow(0, 6, 0), 63);
        due("shadow(0, 6, 1)", x.shadow(0, 6, 1), 137);
        due("shadow(1, 18, 2)", x.shadow(1, 18, 2), 323);
        due("shadow(0, 12, 0) let out", x.shadow(0, 12, 0), 9);
        due("shadow(0, 12, 1) let out", x.shadow(0, 12, 1), 201);
        due("shadow(2, 8, 0) taken in wholly", x.shadow(2, 8, 0), 0);
        due("shadow(2, 8, 1)", x.shadow(2, 8, 1), NONE);
        due("shadow(2, 8, 2)", x.shadow(2, 8, 2), NONE);
        due("shadow(2, 10, 0) taken in by more", x.shadow(2, 10, 0), 0);
        due("shadow(2, 7, 0)", x.shadow(2, 7, 0), 1);
        due("shadow(3, 6, 0)", x.shadow(3, 6, 0), 3);
        due("shadow(3, 7, 0)", x.shadow(3, 7, 0), 2);
        due("shadow(3, 8, 0)", x.shadow(3, 8, 0), 1);
        due("shadow(3, 16, 0)", x.shadow(3, 16, 0), 1);
        due("shadow(3, 17, 0)", x.shadow(3, 17, 0), 2);
        due("shadow(4, 6, 0)", x.shadow(4, 6, 0), BAD);
        due("shadow(0, 5, 0)", x.shadow(0, 5, 0), BAD);
        due("shadow(0, 19, 0)", x.shadow(0, 19, 0), BAD);
        due("shadow(0, 6, 3)", x.shadow(0, 6, 3), BAD);
        due("shadow(2, 8, 3)", x.shadow(2, 8, 3), BAD);
        for (int number : WRONG) {
            due("shadow(" + number + ", 6, 0)", x.shadow(number, 6, 0), BAD);
            due("shadow(0, " + number + ", 0)", x.shadow(0, number, 0), BAD);
            due("shadow(0, 6, " + number + ")", x.shadow(0, 6, number), BAD);
        }
    }

    private static void covers() {
        promise = 9;
        ShadowTailor x = laid("p10,2,0,0;p4,2,1,0;p0,2,0,0;p60,1,2,0;");
        // At 6: 4 to 9; -2 to 3; -6 to -1; 54 to 59.
        due("covers(3, 6)", x.covers(3, 6), 2);
        due("covers(4, 6)", x.covers(4, 6), 1);
        due("covers(9, 6)", x.covers(9, 6), 1);
        due("covers(10, 6)", x.covers(10, 6), 0);
        due("covers(0, 6)", x.covers(0, 6), 2);
        due("covers(53, 6)", x.covers(53, 6), 0);
        due("covers(54, 6)", x.covers(54, 6), 8);
        due("covers(59, 6)", x.covers(59, 6), 8);
        due("covers(60, 6)", x.covers(60, 6), 0);
        // At 9: 7 to 9; 5 to 7; -3 to -1; 58 to 59.
        due("covers(7, 9)", x.covers(7, 9), 3);
        due("covers(6, 9)", x.covers(6, 9), 2);
        due("covers(60, 18)", x.covers(60, 18), 0);
        due("covers(-1, 6)", x.covers(-1, 6), BAD);
        due("covers(61, 6)", x.covers(61, 6), BAD);
        due("covers(0, 5)", x.covers(0, 5), BAD);
        due("covers(0, 19)", x.covers(0, 19), BAD);
        for (int number : WRONG) {
            due("covers(" + number + ", 6)", x.covers(number, 6), BAD);
            due("covers(0, " + number + ")", x.covers(0, number), BAD);
        }
    }

    private static void stands() {
        promise = 10;
        ShadowTailor x = laid("p10,2,0,0;p10,2,0,0;p4,9,0,20;p3,9,0,20;p16,1,0,0;w4,18,17;");
        due("stands(0, 6)", x.stands(0, 6), 4);
        due("stands(1, 6)", x.stands(1, 6), 4);
        due("stands(2, 6)", x.stands(2, 6), 8);
        due("stands(3, 6)", x.stands(3, 6), 0);
        due("stands(4, 6)", x.stands(4, 6), 0);
        due("stands(0, 17)", x.stands(0, 17), 0);
        due("stands(0, 18)", x.stands(0, 18), 0);
        x.alter(0, 8);
        due("stands(0, 6) let out", x.stands(0, 6), 12);
        due("stands(0, 18) let out", x.stands(0, 18), 16);
        due("stands(5, 6)", x.stands(5, 6), BAD);
        due("stands(0, 5)", x.stands(0, 5), BAD);
        due("stands(0, 19)", x.stands(0, 19), BAD);
        for (int number : WRONG) {
            due("stands(" + number + ", 6)", x.stands(number, 6), BAD);
            due("stands(0, " + number + ")", x.stands(0, number), BAD);
        }
    }

    private static void wear() {
        promise = 11;
        ShadowTailor x = laid("p10,2,0,0;p8,1,0,20;p5,1,0,20;p16,1,0,20;");
        // Long 6 5 4 3 2 1 0 1 2 3 4 5 6: person 1 to 10, person 2 to 7, person 3 at 18.
        int[] wears = {2, 4, 5, 6, 7, 7, 7, 7, 7, 7, 7, 7, 8};
        for (int t = 6; t <= 18; t++) {
            due("wear(0, " + t + ")", x.wear(0, t), wears[t - 6]);
            due("wear(1, " + t + ")", x.wear(1, t), 0);
        }
        due("wear(4, 6)", x.wear(4, 6), BAD);
        due("wear(0, 5)", x.wear(0, 5), BAD);
        due("wear(0, 19)", x.wear(0, 19), BAD);
        for (int number : WRONG) {
            due("wear(" + number + ", 6)", x.wear(number, 6), BAD);
            due("wear(0, " + number + ")", x.wear(0, number), BAD);
        }
    }

    private static void alter() {
        promise = 12;
        ShadowTailor x = new ShadowTailor();
        due("alter(2, 29)", x.alter(2, 29), 12);
        due("shadow(2, 6, 0)", x.shadow(2, 6, 0), 16);
        due("alter(2, 0)", x.alter(2, 0), 29);
        due("shadow(2, 6, 0)", x.shadow(2, 6, 0), 45);
        due("alter(2, 0)", x.alter(2, 0), 0);
        due("count(7)", x.count(7), 3);
        due("person(1, 2) stays", x.person(1, 2), 9);
        due("alter(2, -1)", x.alter(2, -1), BAD);
        due("alter(2, 30)", x.alter(2, 30), BAD);
        due("alter(4, 9)", x.alter(4, 9), BAD);
        for (int number : WRONG) {
            due("alter(" + number + ", 9)", x.alter(number, 9), BAD);
            due("alter(0, " + number + ")", x.alter(0, number), BAD);
        }
        due("count(7)", x.count(7), 3);
        due("person(2, 2)", x.person(2, 2), 0);
    }

    private static void walk() {
        promise = 13;
        ShadowTailor x = new ShadowTailor();
        due("walk(0, 5, 1)", x.walk(0, 5, 1), BAD);
        due("walk(0, 19, 1)", x.walk(0, 19, 1), BAD);
        due("walk(4, 6, 1)", x.walk(4, 6, 1), BAD);
        due("walk(0, 6, 61)", x.walk(0, 6, 61), BAD);
        for (int number : WRONG) {
            due("walk(" + number + ", 6, 1)", x.walk(number, 6, 1), BAD);
            due("walk(0, " + number + ", 1)", x.walk(0, number, 1), BAD);
            due("walk(0, 6, " + number + ")", x.walk(0, 6, number), BAD);
        }
        due("count(1)", x.count(1), 1);
        for (int n = 2; n <= 9; n++) {
            due("walk(0, 6, n)", x.walk(0, 6, 60 - n), n);
            due("where(0, 18)", x.where(0, 18), 60 - n);
        }
        due("walk(0, 6, 1) full", x.walk(0, 6, 1), FULL);
        due("walk(0, 6, 61) full", x.walk(0, 6, 61), BAD);
        due("where(0, 6)", x.where(0, 6), 51);
        due("count(7)", x.count(7), 8);
    }

    private static void undo() {
        promise = 14;
        ShadowTailor x = new ShadowTailor();
        due("undo()", x.undo(), NO);
        x.alter(0, 1);
        x.walk(0, 6, 20);
        for (int c = 2; c <= 9; c++) {
            x.alter(0, c);
        }
        due("count(7)", x.count(7), 8);
        for (int n = 7; n >= 0; n--) {
            due("undo()", x.undo(), n);
            due("person(0, 2)", x.person(0, 2), n + 1);
        }
        due("undo() no more", x.undo(), NO);
        due("person(0, 2)", x.person(0, 2), 1);
        due("where(0, 6) stays", x.where(0, 6), 20);
        x.walk(1, 6, 1);
        x.alter(1, 0);
        x.walk(1, 6, 2);
        due("undo()", x.undo(), 2);
        due("where(1, 6)", x.where(1, 6), 1);
        due("count(1)", x.count(1), 3);
        due("undo()", x.undo(), 1);
        due("person(1, 2)", x.person(1, 2), 9);
        due("where(1, 6)", x.where(1, 6), 1);
        x.walk(1, 6, 3);
        due("undo()", x.undo(), 1);
        due("where(1, 6)", x.where(1, 6), 1);
        due("undo()", x.undo(), 0);
        due("where(1, 6)", x.where(1, 6), 16);
        due("count(1)", x.count(1), 2);
        x.walk(4, 6, 3);
        x.alter(0, 30);
        due("undo() of what was BAD", x.undo(), NO);
    }

    private static void first() {
        promise = 15;
        ShadowTailor x = laid("p50,1,0,20;p10,1,0,20;p12,1,0,0;p20,4,0,0;w0,8,10;w1,10,15;");
        // Person 2 reaches 10 at 6, 7, 8; person 3 reaches 12 at 8.
        due("first(0)", x.first(0), 6);
        due("first(1)", x.first(1), 2);
        due("first(2)", x.first(2), 1);
        x.alter(2, 29);
        x.alter(3, 13);
        // Person 3 is 8 long at 6: it reaches 12, where person 2 is.
        due("first(0)", x.first(0), 6);
        due("first(1)", x.first(1), 3);
        due("first(2)", x.first(2), 2);
        x.alter(3, 14);
        due("first(0) later", x.first(0), NONE);
        due("first(1) later", x.first(1), NONE);
        due("first(2) later", x.first(2), NONE);
        due("first(3) none", x.first(3), BAD);
        x.walk(2, 17, 21);
        due("first(0) in the afternoon", x.first(0), 17);
        due("first(1) in the afternoon", x.first(1), 3);
        due("first(2) in the afternoon", x.first(2), 2);
        due("first(3)", x.first(3), BAD);
        for (int number : WRONG) {
            due("first(" + number + ")", x.first(number), BAD);
        }
        ShadowTailor y = laid("p5,1,0,20;p4,1,0,20;p8,2,0,0;p9,2,0,0;");
        due("first(1) of two", y.first(1), 2);
        due("first(2) of two", y.first(2), 0);
        ShadowTailor z = laid("p5,9,0,20;p20,1,0,20;p3,1,0,20;p40,9,0,0;p39,1,0,20;");
        due("first(1), the lowest", z.first(1), 0);
        due("first(2), who is on that one", z.first(2), 2);
        ShadowTailor last = laid("p5,1,0,2;p6,1,0,2;");
        due("first(0) at the last hour", last.first(0), 6);
        last.walk(0, 6, 50);
        due("first(0) of nobody", last.first(0), NONE);
        last.walk(0, 18, 5);
        due("first(0) at the last hour", last.first(0), 18);
    }

    private static void broken() {
        promise = 16;
        ShadowTailor x = laid("p10,4,0,0;p20,2,2,0;l0,8,8;l1,6,11;l0,6,0;l1,12,0;");
        due("broken()", x.broken(), 1);
        x.alter(1, 10);
        due("broken()", x.broken(), 2);
        x.alter(0, 21);
        due("broken()", x.broken(), NONE);
        x.alter(1, 8);
        due("broken()", x.broken(), 1);
        x.alter(0, 8);
        due("broken()", x.broken(), 0);
        x.alter(1, 10);
        x.alter(0, 20);
        due("broken()", x.broken(), 2);
        due("broken() without laws", laid("p10,9,2,0;").broken(), NONE);
        due("broken(), the first", laid("p10,4,0,0;l0,8,7;l0,8,7;").broken(), 0);
    }

    private static void taken() {
        promise = 17;
        ShadowTailor x = laid("p30,4,0,7;p25,1,0,0;p31,1,0,0;p30,9,2,0;l0,16,5;l3,12,0;l1,7,60;");
        due("taken(0, 6, 6)", x.taken(0, 6, 6), 8);
        due("taken(0, 8, 8)", x.taken(0, 8, 8), 4);
        due("taken(0, 10, 10)", x.taken(0, 10, 10), 3);
        due("taken(0, 12, 12)", x.taken(0, 12, 12), 3);
        due("taken(0, 13, 13)", x.taken(0, 13, 13), 3);
        due("taken(0, 15, 15)", x.taken(0, 15, 15), 6);
        due("taken(0, 6, 18)", x.taken(0, 6, 18), 12);
        due("taken(1, 6, 12)", x.taken(1, 6, 12), 0);
        due("taken(3, 12, 12)", x.taken(3, 12, 12), 0);
        due("taken(3, 8, 8)", x.taken(3, 8, 8), NONE);
        due("taken(3, 9, 9)", x.taken(3, 9, 9), NONE);
        due("taken(3, 10, 10)", x.taken(3, 10, 10), 14);
        due("taken(3, 18, 18)", x.taken(3, 18, 18), NONE);
        due("taken(0, 7, 6)", x.taken(0, 7, 6), BAD);
        due("taken(3, 18, 17)", x.taken(3, 18, 17), BAD);
        due("taken(4, 6, 6)", x.taken(4, 6, 6), BAD);
        due("taken(0, 5, 6)", x.taken(0, 5, 6), BAD);
        due("taken(0, 6, 19)", x.taken(0, 6, 19), BAD);
        for (int number : WRONG) {
            due("taken(" + number + ", 6, 6)", x.taken(number, 6, 6), BAD);
            due("taken(0, " + number + ", 6)", x.taken(0, number, 6), BAD);
            due("taken(0, 6, " + number + ")", x.taken(0, 6, number), BAD);
        }
        due("person(0, 2) stays", x.person(0, 2), 16);
        ShadowTailor y = laid("p0,7,0,0;l0,6,1;l0,7,60;p21,8,0,0;l1,6,3;");
        due("taken(0, 6, 6) by 20", y.taken(0, 6, 6), 20);
        due("taken(1, 6, 6) by 21", y.taken(1, 6, 6), NONE);
        y.alter(0, 0);
        due("taken(0, 6, 6) instead of what it is", y.taken(0, 6, 6), 20);
    }

    private static void seen() {
        promise = 18;
        ShadowTailor x = new ShadowTailor();
        due("seen(5, 0)", x.seen(5, 0), BAD);
        due("seen(19, 0)", x.seen(19, 0), BAD);
        due("seen(6, -1)", x.seen(6, -1), BAD);
        due("seen(6, 141)", x.seen(6, 141), BAD);
        for (int number : WRONG) {
            due("seen(" + number + ", 0)", x.seen(number, 0), BAD);
            due("seen(6, " + number + ")", x.seen(6, number), BAD);
        }
        due("count(6)", x.count(6), 0);
        due("seen(6, 0)", x.seen(6, 0), 1);
        due("seen(18, 140)", x.seen(18, 140), 2);
        for (int n = 3; n <= 6; n++) {
            due("seen(6, 0)", x.seen(6, 0), n);
        }
        due("seen(6, 0) full", x.seen(6, 0), FULL);
        due("seen(5, 0) full", x.seen(5, 0), BAD);
        due("count(6)", x.count(6), 6);
    }

    private static void forget() {
        promise = 19;
        ShadowTailor x = new ShadowTailor();
        due("forget()", x.forget(), 0);
        x.seen(6, 0);
        x.seen(7, 0);
        due("whose()", x.whose(), 0);
        due("forget()", x.forget(), 2);
        due("forget()", x.forget(), 0);
        due("count(6)", x.count(6), 0);
        due("whose()", x.whose(), 15);
        due("seen(6, 0)", x.seen(6, 0), 1);
    }

    private static void whose() {
        promise = 20;
        ShadowTailor x = laid("p10,2,0,0;p10,2,0,0;p4,1,0,20;p60,9,2,0;p0,9,2,14;w1,18,40;");
        due("whose() of all", x.whose(), 31);
        x.seen(6, 44);
        due("whose() of those that end at 4", x.whose(), 7);
        x.seen(12, 50);
        due("whose() of those at 10 at noon", x.whose(), 3);
        x.seen(18, 56);
        due("whose() by the walk", x.whose(), 1);
        x.alter(0, 8);
        due("whose() as it is now", x.whose(), 0);
        x.undo();
        x.walk(1, 18, 10);
        due("whose() by walks as they are now", x.whose(), 3);
        x.forget();
        x.seen(6, 0);
        due("whose() below the street", x.whose(), 16);
        x.forget();
        x.alter(3, 23);
        x.seen(18, 140);
        due("whose() beyond the street", x.whose(), 8);
    }

    private static void look() {
        promise = 21;
        ShadowTailor x = laid("p10,2,0,0;p10,2,0,0;p10,2,0,1;p4,1,0,20;w1,9,40;");
        // At 6 persons 0, 1 and 3 end alike; at 7 persons 0 and 1; at 9 none.
        due("look(0)", x.look(0), 9);
        due("look(1)", x.look(1), 1);
        x.seen(6, 44);
        due("look(0)", x.look(0), 9);
        due("look(1)", x.look(1), 1);
        ShadowTailor y = laid("p10,2,0,0;p10,2,0,0;p10,2,0,0;p4,1,0,20;");
        due("look(0) the first of several", y.look(0), 7);
        due("look(1)", y.look(1), 3);
        y.seen(6, 44);
        due("look(0) of four", y.look(0), 7);
        y.seen(7, 45);
        due("look(0) of three alike", y.look(0), 6);
        due("look(1) of three alike", y.look(1), 3);
        y.seen(8, 0);
        due("look(0) of nobody", y.look(0), NONE);
        due("look(1) of nobody", y.look(1), NONE);
        due("look(2) of nobody", y.look(2), BAD);
        due("look(2)", x.look(2), BAD);
        ShadowTailor alike = laid(times("p10,2,0,0;", 6));
        due("look(0) of six alike", alike.look(0), 6);
        due("look(1) of six alike", alike.look(1), 6);
        alike.walk(5, 18, 40);
        due("look(0) at the last hour", alike.look(0), 18);
        due("look(1) at the last hour", alike.look(1), 5);
        for (int number : WRONG) {
            due("look(" + number + ")", x.look(number), BAD);
        }
    }

    private static void cutAnswers(String text, int seams, int waste, int... orders) {
        ShadowTailor x = laid(text);
        due("cut(-1) of " + text, x.cut(-1), seams);
        due("cut(-2) of " + text, x.cut(-2), waste);
        for (int r = 0; r < orders.length; r++) {
            due("cut(" + r + ") of " + text, x.cut(r), orders[r]);
        }
        due("cut(" + orders.length + ") of " + text, x.cut(orders.length), BAD);
        due("cut(-3) of " + text, x.cut(-3), BAD);
        for (int number : new int[] {Integer.MIN_VALUE, Integer.MAX_VALUE}) {
            due("cut(" + number + ") of " + text, x.cut(number), BAD);
        }
    }

    private static void cut() {
        promise = 22;
        cutAnswers("p0,1,0,0;", 0, 0);
        cutAnswers("p0,1,0,0;r4;r4;", 0, 0, NONE, NONE);
        cutAnswers("p0,1,0,0;o1;", NONE, NONE);
        cutAnswers("p0,1,0,0;o5;r4;", NONE, NONE, NONE);
        cutAnswers("p0,1,0,0;o5;o5;r40;", NONE, NONE, NONE);
        cutAnswers("p0,1,0,0;o5;r5;", 0, 0, 0);
        cutAnswers("p0,1,0,0;o5;r2;r3;r40;", 0, 35, NONE, NONE, 0);
        cutAnswers("p0,1,0,0;o5;r7;r6;r8;", 0, 1, NONE, 0, NONE);
        cutAnswers("p0,1,0,0;o60;r20;r20;r20;r9;", 2, 0, 0, 0, 0, NONE);
    }

    private static void cutTies() {
        promise = 22;
        cutAnswers("p0,1,0,0;o5;o5;r5;r5;r5;", 0, 0, 0, 1, NONE);
        cutAnswers("p0,1,0,0;o5;o4;r4;r5;r5;", 0, 0, 1, 0, NONE);
        cutAnswers("p0,1,0,0;o10;o10;r5;r5;r5;r5;", 2, 0, 0, 0, 1, 1);
        cutAnswers("p0,1,0,0;o10;o10;o10;r4;r6;r5;r5;r10;r1;", 2, 0, 0, 0, 1, 1, 2, NONE);
        cutAnswers("p0,1,0,0;o9;o4;r4;r4;r5;r9;", 0, 0, 1, NONE, NONE, 0);
        cutAnswers("p0,1,0,0;o3;o3;o3;r3;r3;r3;r3;r3;r3;r3;", 0, 0, 0, 1, 2, NONE, NONE, NONE, NONE);
        cutAnswers("p0,1,0,0;o7;o7;o7;r1;r2;r3;r4;r5;r6;r7;", 2, 0, 0, 1, NONE, NONE, 1, 0, 2);
    }

    private static void fittings() {
        promise = 23;
        ShadowTailor none = laid("p0,1,0,0;");
        for (int k = -2; k <= 0; k++) {
            due("fittings(" + k + ") of none", none.fittings(k), NONE);
        }
        due("fittings(1) of none", none.fittings(1), BAD);
        due("fittings(-3) of none", none.fittings(-3), BAD);
        String[] texts = {"f3,3;", "f3,2;", "f9,60;f9,9;", "f1,1;f1,1;f1,1;", "f2,2;f9,9;f1,3;", "f5,60;f5,60;f1,60;"};
        int[][] answers = {{0, 0, 0}, {1, 1, 0}, {0, 0, 0}, {2, 3, 0}, {1, 3, 0}, {0, 0, 0}};
        int[][] orders = {{0}, {0}, {1, 0}, {0, 1, 2}, {0, 2, 1}, {0, 1, 2}};
        for (int n = 0; n < texts.length; n++) {
            ShadowTailor x = laid("p0,1,0,0;" + texts[n]);
            due("fittings(-1) of " + texts[n], x.fittings(-1), answers[n][0]);
            due("fittings(-2) of " + texts[n], x.fittings(-2), answers[n][1]);
            for (int k = 0; k < orders[n].length; k++) {
                due("fittings(" + k + ") of " + texts[n], x.fittings(k), orders[n][k]);
            }
            due("fittings(beyond) of " + texts[n], x.fittings(orders[n].length), BAD);
            due("fittings(-3) of " + texts[n], x.fittings(-3), BAD);
            due("fittings(least) of " + texts[n], x.fittings(Integer.MIN_VALUE), BAD);
            due("fittings(most) of " + texts[n], x.fittings(Integer.MAX_VALUE), BAD);
        }
        // Due last, fitting 0 is late by 2; of the orders with one late that is the least.
        ShadowTailor x = laid("p0,1,0,0;f9,9;f1,1;f1,10;");
        due("fittings(-1), fewest late", x.fittings(-1), 1);
        due("fittings(-2), then least hours", x.fittings(-2), 2);
        due("fittings(0)", x.fittings(0), 1);
        due("fittings(1)", x.fittings(1), 2);
        due("fittings(2)", x.fittings(2), 0);
        // One after the other two are late by 2 hours together; fewest late comes first.
        ShadowTailor y = laid("p0,1,0,0;f9,9;f2,10;f2,12;");
        due("fittings(-1), one late", y.fittings(-1), 1);
        due("fittings(-2), more hours", y.fittings(-2), 3);
        due("fittings(0), more hours", y.fittings(0), 0);
        due("fittings(1), more hours", y.fittings(1), 2);
        due("fittings(2), more hours", y.fittings(2), 1);
    }

    private static void watchers() {
        promise = 24;
        ShadowTailor x = laid("p10,2,0,0;p12,1,0,0;p13,1,0,0;p0,1,2,0;p30,1,0,20;");
        // At 6: 4 to 9, 9 to 11, 10 to 12, -6 to -1, none.
        due("watchers(6, 0)", x.watchers(6, 0), 3);
        due("watchers(6, 1)", x.watchers(6, 1), 199);
        due("watchers(12, 0)", x.watchers(12, 0), NONE);
        due("watchers(12, 1)", x.watchers(12, 1), NONE);
        due("watchers(12, 2)", x.watchers(12, 2), BAD);
        // At 18: 11 to 16, 13 to 15, 14 to 16, 1 to 6.
        due("watchers(18, 0)", x.watchers(18, 0), 2);
        due("watchers(18, 1)", x.watchers(18, 1), 206);
        ShadowTailor y = laid("p10,2,0,0;p4,1,0,0;p7,1,0,0;");
        // At 6: 4 to 9, 1 to 3, 4 to 6.
        due("watchers(6, 0)", y.watchers(6, 0), 2);
        due("watchers(6, 1)", y.watchers(6, 1), 203);
        y.alter(1, 29);
        due("watchers(6, 0) without one", y.watchers(6, 0), 1);
        due("watchers(6, 1) without one", y.watchers(6, 1), 206);
        due("watchers(6, 2)", y.watchers(6, 2), BAD);
        due("watchers(5, 0)", y.watchers(5, 0), BAD);
        due("watchers(19, 0)", y.watchers(19, 0), BAD);
        for (int number : WRONG) {
            due("watchers(" + number + ", 0)", y.watchers(number, 0), BAD);
            due("watchers(6, " + number + ")", y.watchers(6, number), BAD);
        }
        ShadowTailor z = laid("p0,1,0,16;p10,1,0,16;p20,1,0,16;p30,1,0,16;p40,1,0,16;p50,1,0,16;");
        for (int i = 0; i < 6; i++) {
            z.alter(i, 8);
        }
        due("watchers(12, 0) of six", z.watchers(12, 0), 6);
        due("watchers(12, 1) of six", z.watchers(12, 1), 201);
    }

    private static void poplar() {
        promise = 25;
        ShadowTailor x = new ShadowTailor();
        for (int m = 1; m <= 9; m++) {
            boolean[] wins = new boolean[100];
            for (int n = 1; n <= 99; n++) {
                int stroke = 0;
                for (int k = 1; k <= m && k < n; k++) {
                    if (!wins[n - k]) {
                        wins[n] = true;
                        stroke = k;
                    }
                }
                due("poplar(" + n + ", " + m + ")", x.poplar(n, m), stroke);
            }
        }
        due("poplar(0, 1)", x.poplar(0, 1), BAD);
        due("poplar(100, 1)", x.poplar(100, 1), BAD);
        due("poplar(1, 0)", x.poplar(1, 0), BAD);
        due("poplar(1, 10)", x.poplar(1, 10), BAD);
        for (int number : WRONG) {
            due("poplar(" + number + ", 1)", x.poplar(number, 1), BAD);
            due("poplar(1, " + number + ")", x.poplar(1, number), BAD);
        }
    }

    private static void light() {
        promise = 26;
        ShadowTailor x = laid("p10,2,0,0;p8,1,0,0;p0,9,0,0;p60,1,2,0;");
        // At 6: 4 to 9, 5 to 7, all below 0, 54 to 59; at 18: 11 to 16, 9 to 11, 1 to 27, all above 60.
        due("light(6)", x.light(6), 61 - 6 - 6);
        due("light(18)", x.light(18), 61 - 27);
        due("light(12)", x.light(12), 61);
        ShadowTailor y = laid("p60,9,2,0;");
        y.alter(0, 0);
        due("light(6) of one left", y.light(6), 1);
        due("light(5)", y.light(5), BAD);
        due("light(19)", y.light(19), BAD);
        for (int number : WRONG) {
            due("light(" + number + ")", y.light(number), BAD);
        }
    }

    private static void clouds() {
        promise = 27;
        ShadowTailor x = laid("p10,9,0,0;p9,1,0,20;p11,1,0,20;");
        x.alter(0, 0);
        // Stood on at all 13 hours.
        long[] above = {0, 1, 1, 3, 2, 1, 3, 7, 4, 9, 1};
        long[] below = {1, 10, 5, 10, 5, 2, 5, 10, 5, 10, 1};
        for (int chance = 0; chance <= 10; chance++) {
            long top = 1;
            long bottom = 1;
            for (int b = 6; b <= 18; b++) {
                top *= above[chance];
                bottom *= below[chance];
                due("clouds(0, 6, " + b + ", " + chance + ", 0)", x.clouds(0, 6, b, chance, 0), top);
                due("clouds(0, 6, " + b + ", " + chance + ", 1)", x.clouds(0, 6, b, chance, 1), bottom);
            }
            due("clouds(1, 6, 18, " + chance + ", 0)", x.clouds(1, 6, 18, chance, 0), 1);
            due("clouds(1, 6, 18, " + chance + ", 1)", x.clouds(1, 6, 18, chance, 1), 1);
        }
        due("clouds(0, 18, 18, 3, 1)", x.clouds(0, 18, 18, 3, 1), 10);
        due("clouds(0, 7, 6, 3, 0)", x.clouds(0, 7, 6, 3, 0), BAD);
        due("clouds(3, 6, 6, 3, 0)", x.clouds(3, 6, 6, 3, 0), BAD);
        due("clouds(0, 5, 6, 3, 0)", x.clouds(0, 5, 6, 3, 0), BAD);
        due("clouds(0, 6, 19, 3, 0)", x.clouds(0, 6, 19, 3, 0), BAD);
        due("clouds(0, 6, 6, 11, 0)", x.clouds(0, 6, 6, 11, 0), BAD);
        due("clouds(0, 6, 6, 3, 2)", x.clouds(0, 6, 6, 3, 2), BAD);
        for (int number : WRONG) {
            due("clouds(" + number + ", 6, 6, 3, 0)", x.clouds(number, 6, 6, 3, 0), BAD);
            due("clouds(0, " + number + ", 6, 3, 0)", x.clouds(0, number, 6, 3, 0), BAD);
            due("clouds(0, 6, " + number + ", 3, 0)", x.clouds(0, 6, number, 3, 0), BAD);
            due("clouds(0, 6, 6, " + number + ", 0)", x.clouds(0, 6, 6, number, 0), BAD);
            due("clouds(0, 6, 6, 3, " + number + ")", x.clouds(0, 6, 6, 3, number), BAD);
        }
    }

    private static void day() {
        promise = 28;
        ShadowTailor x = laid("p10,1,0,0;p20,1,0,0;");
        // By hand: both shadows are 3 to 0 long; the cells are those of the draws.
        for (int z : new int[] {0, 1, 7, 300, 9999}) {
            int together = 0;
            int firstHour = NONE;
            for (int t = 6; t <= 18; t++) {
                int length = Math.abs(t - 12) / 2;
                int apart = drawn(z, t, 1) - drawn(z, t, 0);
                if (apart != 0 && Math.abs(apart) <= length) {
                    together++;
                    firstHour = firstHour == NONE ? t : firstHour;
                }
            }
            due("day(" + z + ", 0)", x.day(z, 0), together);
            due("day(" + z + ", 1)", x.day(z, 1), firstHour);
        }
        ShadowTailor alone = laid("p10,9,0,0;");
        due("day(5, 0) alone", alone.day(5, 0), 0);
        due("day(5, 1) alone", alone.day(5, 1), NONE);
        due("day(-1, 0)", x.day(-1, 0), BAD);
        due("day(10000, 0)", x.day(10000, 0), BAD);
        due("day(0, 2)", x.day(0, 2), BAD);
        for (int number : WRONG) {
            due("day(" + number + ", 0)", x.day(number, 0), BAD);
            due("day(0, " + number + ")", x.day(0, number), BAD);
        }
        due("where(0, 6) stays", x.where(0, 6), 10);
    }

    private static int drawn(int z, int t, int i) {
        java.math.BigInteger q = java.math.BigInteger.valueOf(7919L * z + 6151L * t + 3571L * i + 1);
        return q.multiply(q).mod(java.math.BigInteger.valueOf(65521)).intValue() % 61;
    }

    private static void keep() {
        promise = 29;
        ShadowTailor x = new ShadowTailor();
        x.alter(0, 20);
        due("keep()", x.keep(), 1);
        due("count(7) stays", x.count(7), 1);
        due("keep()", x.keep(), 2);
        x.alter(0, 21);
        due("keep() full", x.keep(), FULL);
        due("count(8)", x.count(8), 2);
        x.back();
        due("person(0, 2)", x.person(0, 2), 20);
        due("keep() again", x.keep(), 2);
    }

    private static void back() {
        promise = 30;
        ShadowTailor x = new ShadowTailor();
        due("back()", x.back(), NO);
        x.alter(0, 0);
        due("back()", x.back(), NO);
        due("count(7) stays", x.count(7), 1);
        x.walk(3, 6, 50);
        x.keep();
        x.undo();
        x.walk(3, 6, 40);
        x.walk(2, 6, 30);
        x.alter(1, 5);
        x.keep();
        x.undo();
        x.undo();
        x.seen(6, 40);
        due("back()", x.back(), 1);
        due("where(3, 6)", x.where(3, 6), 40);
        due("where(2, 6)", x.where(2, 6), 30);
        due("person(1, 2)", x.person(1, 2), 5);
        due("count(1)", x.count(1), 3);
        due("undo() nothing", x.undo(), NO);
        due("count(6) stays", x.count(6), 1);
        due("back()", x.back(), 0);
        due("where(3, 6)", x.where(3, 6), 50);
        due("where(2, 6)", x.where(2, 6), 30);
        due("person(1, 2)", x.person(1, 2), 9);
        due("person(0, 2)", x.person(0, 2), 0);
        due("count(1)", x.count(1), 2);
        due("back() no more", x.back(), NO);
        due("where(1, 14)", x.where(1, 14), 12);
    }

    private static void count() {
        promise = 31;
        ShadowTailor x = laid("p1,1,0,0;p2,1,0,0;p3,1,0,0;w0,6,1;w1,6,1;l0,6,1;r1;r2;r3;r4;r5;o1;o2;f1,1;");
        x.walk(2, 6, 1);
        x.alter(0, 1);
        x.seen(6, 1);
        x.keep();
        int[] counts = {3, 3, 1, 5, 2, 1, 1, 2, 1, 74};
        for (int what = 0; what < counts.length; what++) {
            due("count(" + what + ")", x.count(what), counts[what]);
        }
        due("count(10)", x.count(10), BAD);
        for (int number : WRONG) {
            due("count(" + number + ")", x.count(number), BAD);
        }
    }
}
