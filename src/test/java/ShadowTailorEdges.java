import java.io.IOException;
import java.nio.file.Files;
import java.nio.file.Path;

/** For each sentence of the document that names a boundary case a test of its own, under the sentence's words. */
public final class ShadowTailorEdges {
    private static final int BAD = -1, NO = -2, FULL = -3, NONE = -4;
    private static final Path DOCUMENT = Path.of("../shared/DOC.md");

    private static String document = "";
    private static String sentence = "";
    private static int sentences;
    private static int wrong;

    public static void main(String[] args) throws IOException {
        if (Files.isReadable(DOCUMENT)) {
            document = Files.readString(DOCUMENT).replaceAll("\\s+", " ");
        }
        texts();
        personsInTexts();
        walksAndLawsInTexts();
        stockInTexts();
        faults();
        laying();
        calls();
        places();
        lengths();
        ways();
        coveredCells();
        standing();
        changing();
        undoing();
        firstStoodOn();
        laws();
        takingIn();
        seeing();
        looking();
        cutting();
        cuttingTies();
        fitting();
        watching();
        fellingAPoplar();
        lighting();
        cloudsByChance();
        daysByDraws();
        keeping();
        counting();
        ofSeveralTheFirst();
        System.out.println(wrong == 0 ? sentences + " sentences hold at their edges" : wrong + " answers are not as due");
        if (wrong != 0) {
            System.exit(1);
        }
    }

    /** The words that the answers behind it are due by; they stand in the document. */
    private static void told(String words) {
        sentence = words;
        sentences++;
        if (!document.isEmpty() && !document.contains(words)) {
            wrong++;
            System.out.println("the document does not say: " + words);
        }
    }

    private static void due(String call, long got, long want) {
        if (got != want) {
            wrong++;
            System.out.println("\"" + sentence + "\": " + call + " answered " + got + ", due is " + want);
        }
    }

    private static ShadowTailor written(String text) {
        ShadowTailor x = new ShadowTailor();
        for (int k = 0; k < text.length(); k++) {
            x.write(text.charAt(k));
        }
        return x;
    }

    private static ShadowTailor laid(String text) {
        ShadowTailor x = written(text);
        if (x.lay() < 1) {
            due("lay() of " + text, x.lay(), 1);
        }
        return x;
    }

    private static void writeAnew(ShadowTailor x, String text) {
        x.wipe();
        for (int k = 0; k < text.length(); k++) {
            x.write(text.charAt(k));
        }
    }

    private static void fault(String text, int place) {
        due("fault() of " + text, written(text).fault(), place);
    }

    /** Both ends of a range are fine in a text, and what lies beside them is a fault of that item. */
    private static void range(String ahead, String item, int least, int most) {
        for (int number : new int[] {least, most}) {
            fault(ahead + item.replace("#", "" + number), NONE);
        }
        if (least > 0) {
            fault(ahead + item.replace("#", "" + (least - 1)), ahead.length());
        }
        fault(ahead + item.replace("#", "" + (most + 1)), ahead.length());
        fault(ahead + item.replace("#", "99"), ahead.length());
    }

    private static void most(String ahead, String item, int many) {
        fault(ahead + item.repeat(many), NONE);
        fault(ahead + item.repeat(many + 1), ahead.length() + item.length() * many);
    }

    private static void bits(String call, int got, int... persons) {
        int want = 0;
        for (int i : persons) {
            want |= 1 << i;
        }
        due(call, got, want);
    }

    // ---- 1, promises 2 to 4

    private static void texts() {
        told("A TEXT is letters (200 at most)");
        ShadowTailor x = new ShadowTailor();
        for (int n = 1; n <= 200; n++) {
            due("write(32), the letter " + n, x.write(32), n);
        }
        due("write(32), the letter 201", x.write(32), FULL);
        due("write(32), the letter 201 again", x.write(32), FULL);
        due("count(9)", x.count(9), 200);

        told("A letter (32 to 126, as in ASCII) comes behind THE TEXT: how long it is. BAD; FULL.");
        ShadowTailor y = new ShadowTailor();
        due("write(31)", y.write(31), BAD);
        due("write(127)", y.write(127), BAD);
        due("write(0)", y.write(0), BAD);
        due("write(-1)", y.write(-1), BAD);
        due("write(256 + 112)", y.write(256 + 112), BAD);
        due("write(65536 + 112)", y.write(65536 + 112), BAD);
        due("count(9) behind refused letters", y.count(9), 0);
        due("write(32)", y.write(32), 1);
        due("write(126)", y.write(126), 2);
        due("write(31) of a full text", x.write(31), BAD);
        due("write(127) of a full text", x.write(127), BAD);

        told("THE TEXT is empty: how long it was.");
        due("wipe() of 200", x.wipe(), 200);
        due("wipe() of none", x.wipe(), 0);
        due("wipe() of 2", y.wipe(), 2);
        due("write(112) behind wipe()", x.write(112), 1);
        due("wipe() of 1", x.wipe(), 1);
        due("count(0) stays", x.count(0), 4);
        due("wipe() of a new object", new ShadowTailor().wipe(), 0);
    }

    private static void personsInTexts() {
        told("pX,H,K,C a PERSON at cell X (0 to 60)");
        range("", "p#,1,0,0;", 0, 60);
        told("H (1 to 9) high");
        range("", "p0,#,0,0;", 1, 9);
        told("with a SHADOW of KIND K (0 OWN, 1 PATCHED, 2 LENT, 3 SEAMED)");
        range("", "p0,1,#,0;", 0, 3);
        told("taken in by C (0 to 20); 6 at most, 0, 1, ..");
        range("", "p0,1,0,#;", 0, 20);
        most("", "p0,1,0,0;", 6);
        ShadowTailor x = laid("p1,1,0,0;p2,2,1,4;p3,3,2,8;p4,4,3,12;p5,5,0,16;p60,9,1,20;");
        for (int i = 0; i < 6; i++) {
            due("where(" + i + ", 6)", x.where(i, 6), i == 5 ? 60 : i + 1);
            due("person(" + i + ", 0)", x.person(i, 0), i == 5 ? 9 : i + 1);
            due("person(" + i + ", 1)", x.person(i, 1), i % 4);
            due("person(" + i + ", 2)", x.person(i, 2), 4 * i + 9);
        }
        due("person(6, 0)", x.person(6, 0), BAD);
    }

    private static void walksAndLawsInTexts() {
        String two = "p0,1,0,0;p0,1,0,0;";
        told("wI,T,X PERSON I (told ahead) is at cell X (0 to 60) from hour T (6 to 18) on; 9 at most");
        range(two, "w#,6,0;", 0, 1);
        range(two, "w0,#,0;", 6, 18);
        range(two, "w0,6,#;", 0, 60);
        most(two, "w0,6,0;", 9);
        fault("w0,6,0;p0,1,0,0;", 0);
        fault("p0,1,0,0;w1,6,0;p0,1,0,0;", 9);
        fault("p0,1,0,0;p0,1,0,0;w1,6,0;", NONE);
        range("p0,1,0,0;".repeat(6), "w#,6,0;", 0, 5);

        told("lI,T,N the SHADOW of PERSON I (told ahead) may be N (0 to 60) cells long at hour T (6 to 18); 6 at most, 0, 1, ..");
        range(two, "l#,6,0;", 0, 1);
        range(two, "l0,#,0;", 6, 18);
        range(two, "l0,6,#;", 0, 60);
        most(two, "l0,6,0;", 6);
        fault("l0,6,0;p0,1,0,0;", 0);
        fault("p0,1,0,0;l1,6,0;p0,1,0,0;", 9);
        range("p0,1,0,0;".repeat(6), "l#,6,0;", 0, 5);
    }

    private static void stockInTexts() {
        told("rN a REMNANT of N (1 to 40) cells; 7 at most, 0, 1, ..");
        range("", "r#;", 1, 40);
        most("", "r40;", 7);
        told("oN an ORDER of N (1 to 60) cells; 3 at most, 0, 1, ..");
        range("", "o#;", 1, 60);
        most("", "o60;", 3);
        told("fT,D a FITTING of T (1 to 9) hours, due behind D (1 to 60) hours; 6 at most, 0, 1, ..");
        range("", "f#,1;", 1, 9);
        range("", "f1,#;", 1, 60);
        most("", "f9,60;", 6);
    }

    private static void faults() {
        told("each a letter, then numbers (one or two figures) parted by , and a ; behind the last one");
        for (String fine : new String[] {"r1;", "r01;", "r40;", "p0,1,0,0;", "p00,01,00,00;", "f9,60;", "f09,06;"}) {
            fault(fine, NONE);
        }
        String[] wrongItems = {"r;", "r001;", "r040;", "r", "r1", "r1,", "r1,;", "r1,1;", "r,1;", "r1.", "r1 ;", "r 1;", "r+1;", "r-1;",
            "r1:", "r/;", "r:;", "f1;", "f1,;", "f,1;", "f1,1", "f1;1;", "f1,1,1;", "f1,,1;", "p0,1,0;", "p0,1,0,0,0;", "p0,1,0,0",
            "p0,1,0,", "p0;1,0,0;", "p000,1,0,0;", "p", "R1;", "P0,1,0,0;", "q1;", "1;", ";", ",", " ", "~", " r1;"};
        for (String item : wrongItems) {
            fault(item, 0);
        }

        told("FAULT: the place of the first letter of the first ITEM that is not so.");
        for (String item : wrongItems) {
            fault("o1;p0,1,0,0;" + item, 12);
            fault("r1;" + item + "r1;", 3);
        }
        fault("r0;o0;", 0);
        fault("r1;r0;o0;", 3);
        fault("r1;;", 3);
        fault("r1; ", 3);
        String longest = "p10,4,0,10;".repeat(6) + "w0,10,10;".repeat(9) + "r10;".repeat(7) + "f1,10;".repeat(4);
        due("letters of the longest text", longest.length(), 199);
        fault(longest, NONE);
        fault(longest + "f", 199);

        told("`int fault()`: FAULT. NONE.");
        fault("", NONE);
        due("fault() of a new object", new ShadowTailor().fault(), NONE);
        ShadowTailor x = written("p0,1,0,0;r");
        due("fault()", x.fault(), 9);
        due("fault() again", x.fault(), 9);
        x.write('1');
        due("fault() without ;", x.fault(), 9);
        x.write(';');
        due("fault() with ;", x.fault(), NONE);
        x.wipe();
        due("fault() behind wipe()", x.fault(), NONE);
        due("count(0) stays", x.count(0), 4);
    }

    // ---- promises 1 and 5

    private static void laying() {
        told("LAID is a TEXT without FAULT, of a PERSON at least (NO else;");
        due("lay() of an empty text", new ShadowTailor().lay(), NO);
        due("lay() without a person", written("r1;o1;f1,1;").lay(), NO);
        due("lay() with a fault behind a person", written("p0,1,0,0;p0,1,0,0").lay(), NO);
        due("lay() of a person too many", written("p0,1,0,0;".repeat(7)).lay(), NO);
        due("lay() of one person", written("p0,1,0,0;").lay(), 1);
        due("lay() of six", written("p0,1,0,0;".repeat(6)).lay(), 6);
        due("lay() of a person behind the rest", written("r1;o1;f1,1;p0,1,0,0;").lay(), 1);

        String first = "p10,4,0,0;p16,2,1,0;p30,6,2,3;p33,3,3,1;w1,14,12;l0,8,6;l2,16,9;r5;r3;r8;r2;o6;o9;f2,4;f3,3;f1,6;";
        told("at first " + first + ")");
        ShadowTailor fresh = new ShadowTailor();
        ShadowTailor same = laid(first);
        same.wipe();
        for (int what = 0; what <= 9; what++) {
            due("count(" + what + ")", fresh.count(what), same.count(what));
        }
        for (int i = 0; i < 4; i++) {
            for (int t = 6; t <= 18; t++) {
                due("where(" + i + ", " + t + ")", fresh.where(i, t), same.where(i, t));
                due("shadow(" + i + ", " + t + ", 0)", fresh.shadow(i, t, 0), same.shadow(i, t, 0));
            }
        }
        due("undo() of a new object", fresh.undo(), NO);
        due("back() of a new object", fresh.back(), NO);
        due("forget() of a new object", fresh.forget(), 0);
        due("lay() of a new object", fresh.lay(), NO);

        told("LAID: how many PERSONS; nothing SEEN, UNDONE, KEPT. NO.");
        ShadowTailor x = written("p7,1,0,5;");
        x.seen(6, 0);
        x.alter(0, 0);
        x.walk(0, 6, 60);
        x.keep();
        due("lay()", x.lay(), 1);
        for (int what = 6; what <= 8; what++) {
            due("count(" + what + ")", x.count(what), 0);
        }
        due("undo()", x.undo(), NO);
        due("back()", x.back(), NO);
        due("forget()", x.forget(), 0);
        due("whose()", x.whose(), 1);
        due("count(9) stays", x.count(9), 9);
        x.alter(0, 0);
        x.walk(0, 6, 60);
        due("lay() again", x.lay(), 1);
        due("person(0, 2) as in the text", x.person(0, 2), 14);
        due("where(0, 6) as in the text", x.where(0, 6), 7);
        layingAnew();
    }

    /** Nothing of a text that was read or laid ahead is left when another one is laid. */
    private static void layingAnew() {
        ShadowTailor x = laid("p0,1,0,0;w0,6,9;l0,6,0;r9;o9;f1,1;f1,1;");
        due("cut(-2)", x.cut(-2), 0);
        due("fittings(-1)", x.fittings(-1), 1);
        writeAnew(x, "p5,2,0,1;p6,3,0,2;w0,6,7;w1,6,8;l0,6,1;l1,6,1;r1;r2;o3;o4;f2,2;f1,3;r");
        due("fault()", x.fault(), 68);
        due("lay()", x.lay(), NO);
        int[] counts = {1, 1, 1, 1, 1, 2};
        for (int what = 0; what < counts.length; what++) {
            due("count(" + what + ") stays", x.count(what), counts[what]);
        }
        due("where(0, 6) stays", x.where(0, 6), 9);
        due("person(0, 0) stays", x.person(0, 0), 1);
        due("cut(0) stays", x.cut(0), 0);
        due("fittings(-2) stays", x.fittings(-2), 1);
        writeAnew(x, "p60,1,0,0;");
        due("lay() of a person alone", x.lay(), 1);
        for (int what = 1; what < counts.length; what++) {
            due("count(" + what + ") of a person alone", x.count(what), 0);
        }
        due("where(0, 6) of a person alone", x.where(0, 6), 60);
        due("broken() of a person alone", x.broken(), NONE);
        due("cut(-2) of a person alone", x.cut(-2), 0);
        due("cut(0) of a person alone", x.cut(0), BAD);
        due("fittings(-1) of a person alone", x.fittings(-1), NONE);
        writeAnew(x, "p0,1,0,0;o9;r8;f3,1;f1,1;");
        due("lay() with an order too long", x.lay(), 1);
        due("cut(-1) with an order too long", x.cut(-1), NONE);
        due("fittings(-2) of two", x.fittings(-2), 3);
        due("fittings(0) of two", x.fittings(0), 1);
        writeAnew(x, "p0,1,0,0;o9;r8;r9;r9;f9,1;");
        x.lay();
        due("cut(0) of three", x.cut(0), NONE);
        due("cut(1) of three", x.cut(1), 0);
        due("fittings(-2) of one", x.fittings(-2), 8);
    }

    private static void calls() {
        told("An object is used for at most 512 calls after it has been made");
        ShadowTailor x = new ShadowTailor();
        for (int n = 1; n <= 250; n++) {
            due("alter(0, " + n % 30 + ")", x.alter(0, n % 30), n == 1 ? 9 : (n - 1) % 30);
            due("person(0, 2)", x.person(0, 2), n % 30);
        }
        for (int n = 7; n >= 0; n--) {
            due("undo()", x.undo(), n);
        }
        due("undo(), the call 509", x.undo(), NO);
        due("day(9999, 2), the call 510", x.day(9999, 2), BAD);
        due("person(0, 2), the call 511", x.person(0, 2), 242 % 30);
        due("cut(-2), the call 512", x.cut(-2), 3);
    }

    // ---- 2, promises 6 to 14

    private static void places() {
        told("BAD: a number is none that is told (PERSONS, REMNANTS: such as there are; hours 6 to 18).");
        for (int many = 1; many <= 6; many++) {
            ShadowTailor some = laid("p20,2,0,0;".repeat(many) + "r1;".repeat(many));
            for (int i = 0; i <= 6; i++) {
                due("where(" + i + ", 6) of " + many, some.where(i, 6), i < many ? 20 : BAD);
                due("person(" + i + ", 0) of " + many, some.person(i, 0), i < many ? 2 : BAD);
                due("shadow(" + i + ", 12, 1) of " + many, some.shadow(i, 12, 1), i < many ? NONE : BAD);
                due("stands(" + i + ", 6) of " + many, some.stands(i, 6), i < many ? 0 : BAD);
                due("wear(" + i + ", 6) of " + many, some.wear(i, 6), i < many ? 0 : BAD);
                due("taken(" + i + ", 6, 6) of " + many, some.taken(i, 6, 6), i < many ? 0 : BAD);
                due("clouds(" + i + ", 6, 6, 0, 0) of " + many, some.clouds(i, 6, 6, 0, 0), i < many ? 1 : BAD);
                due("alter(" + i + ", 9) of " + many, some.alter(i, 9), i < many ? 9 : BAD);
                due("walk(" + i + ", 6, 20) of " + many, some.walk(i, 6, 20), i < many ? i + 1 : BAD);
                due("cut(" + i + ") of " + many, some.cut(i), i < many ? NONE : BAD);
            }
        }

        told("Hours are 6 to 18.");
        ShadowTailor one = laid("p20,2,0,0;r1;");
        for (int t = 4; t <= 20; t++) {
            boolean isHour = t >= 6 && t <= 18;
            due("where(0, " + t + ")", one.where(0, t), isHour ? 20 : BAD);
            due("shadow(0, " + t + ", 0)", one.shadow(0, t, 0), isHour ? Math.abs(12 - t) : BAD);
            due("covers(20, " + t + ")", one.covers(20, t), isHour ? 0 : BAD);
            due("stands(0, " + t + ")", one.stands(0, t), isHour ? 0 : BAD);
            due("wear(0, " + t + ")", one.wear(0, t), isHour ? 0 : BAD);
            due("taken(0, " + t + ", " + t + ")", one.taken(0, t, t), isHour ? 0 : BAD);
            due("watchers(" + t + ", 0)", one.watchers(t, 0), !isHour ? BAD : t == 12 ? NONE : 1);
            due("light(" + t + ")", one.light(t), isHour ? 61 - Math.abs(12 - t) : BAD);
            due("clouds(0, " + t + ", " + t + ", 5, 1)", one.clouds(0, t, t, 5, 1), isHour ? 1 : BAD);
        }

        told("Of a PERSON: height (what = 0), KIND (1), by how much the SHADOW is taken in, and 9 (2). BAD.");
        ShadowTailor ends = laid("p0,9,3,20;p0,1,0,0;");
        int[][] answers = {{9, 3, 29}, {1, 0, 9}};
        for (int i = 0; i < 2; i++) {
            for (int what = 0; what <= 2; what++) {
                due("person(" + i + ", " + what + ")", ends.person(i, what), answers[i][what]);
            }
            due("person(" + i + ", 3)", ends.person(i, 3), BAD);
            due("person(" + i + ", -1)", ends.person(i, -1), BAD);
        }
        due("person(2, 0)", ends.person(2, 0), BAD);
        due("person(-1, 0)", ends.person(-1, 0), BAD);
        ends.alter(1, 0);
        due("person(1, 2) let out by 9", ends.person(1, 2), 0);

        told("Where a PERSON is at an hour. BAD.");
        due("where(0, 6)", ends.where(0, 6), 0);
        due("where(1, 18)", ends.where(1, 18), 0);
        due("where(2, 6)", ends.where(2, 6), BAD);
        due("where(-1, 6)", ends.where(-1, 6), BAD);
        due("where(32, 6)", ends.where(32, 6), BAD);
        due("where(0, 5)", ends.where(0, 5), BAD);
        due("where(0, 19)", ends.where(0, 19), BAD);

        told("A PERSON is where told; from an hour of a walk on where that leads");
        ShadowTailor x = laid("p20,2,0,0;p30,2,0,0;w0,18,60;w1,6,0;");
        due("where(0, 17)", x.where(0, 17), 20);
        due("where(0, 18)", x.where(0, 18), 60);
        due("where(1, 6)", x.where(1, 6), 0);
        due("where(1, 18)", x.where(1, 18), 0);

        told("(of walks begun the one of the latest hour, of several the last one)");
        ShadowTailor y = laid("p20,2,0,0;p9,1,0,0;w0,12,1;w0,9,2;w0,12,3;w0,9,4;w1,12,5;");
        int[] cells = {20, 20, 20, 4, 4, 4, 3, 3, 3, 3, 3, 3, 3};
        for (int t = 6; t <= 18; t++) {
            due("where(0, " + t + ")", y.where(0, t), cells[t - 6]);
            due("where(1, " + t + ")", y.where(1, t), t < 12 ? 9 : 5);
        }
        y.walk(0, 9, 6);
        due("where(0, 11)", y.where(0, 11), 6);
        due("where(0, 12)", y.where(0, 12), 3);
        y.walk(0, 12, 7);
        due("where(0, 12) of the last one", y.where(0, 12), 7);
    }

    private static void lengths() {
        told("at hour T as long as H times the hours from T to 12 (without sign), by 2, cut");
        ShadowTailor x = laid("p30,1,0,0;p30,9,0,0;");
        int[] low = {3, 2, 2, 1, 1, 0, 0, 0, 1, 1, 2, 2, 3};
        int[] high = {27, 22, 18, 13, 9, 4, 0, 4, 9, 13, 18, 22, 27};
        for (int t = 6; t <= 18; t++) {
            due("shadow(0, " + t + ", 0)", x.shadow(0, t, 0), low[t - 6]);
            due("shadow(1, " + t + ", 0)", x.shadow(1, t, 0), high[t - 6]);
        }

        told("A LENT one is twice as long as an OWN one.");
        ShadowTailor lent = laid("p30,1,2,0;p30,9,2,0;");
        for (int t = 6; t <= 18; t++) {
            due("shadow(0, " + t + ", 0)", lent.shadow(0, t, 0), 2 * low[t - 6]);
            due("shadow(1, " + t + ", 0)", lent.shadow(1, t, 0), 2 * high[t - 6]);
        }

        told("A SEAMED one is 1 longer than an OWN one at 6, 7, 17 and 18.");
        ShadowTailor seamed = laid("p30,1,3,0;p30,9,3,0;");
        for (int t = 6; t <= 18; t++) {
            int seam = t == 6 || t == 7 || t == 17 || t == 18 ? 1 : 0;
            due("shadow(0, " + t + ", 0)", seamed.shadow(0, t, 0), low[t - 6] + seam);
            due("shadow(1, " + t + ", 0)", seamed.shadow(1, t, 0), high[t - 6] + seam);
        }

        told("What is taken in makes it shorter, 0 at least; let out (below 0) longer.");
        ShadowTailor cut = laid("p30,4,0,0;");
        int[] codes = {0, 8, 9, 10, 20, 21, 22, 29};
        int[] sixes = {21, 13, 12, 11, 1, 0, 0, 0};
        int[] noons = {9, 1, 0, 0, 0, 0, 0, 0};
        for (int n = 0; n < codes.length; n++) {
            cut.alter(0, codes[n]);
            due("shadow(0, 6, 0) by " + codes[n], cut.shadow(0, 6, 0), sixes[n]);
            due("shadow(0, 12, 0) by " + codes[n], cut.shadow(0, 12, 0), noons[n]);
        }
    }

    private static void ways() {
        told("it falls ahead of 12 to lower cells, else to higher ones.");
        ShadowTailor x = laid("p30,2,0,0;p30,2,2,0;p30,2,3,0;p30,2,1,0;");
        for (int i = 0; i < 4; i++) {
            x.alter(i, 8);
        }
        for (int i = 0; i < 3; i++) {
            due("shadow(" + i + ", 11, 2)", x.shadow(i, 11, 2), 229);
            due("shadow(" + i + ", 12, 1)", x.shadow(i, 12, 1), 231);
            due("shadow(" + i + ", 12, 2)", x.shadow(i, 12, 2), 231);
            due("shadow(" + i + ", 13, 1)", x.shadow(i, 13, 1), 231);
            due("shadow(" + i + ", 6, 2)", x.shadow(i, 6, 2), 229);
            due("shadow(" + i + ", 18, 1)", x.shadow(i, 18, 1), 231);
        }

        told("A PATCHED one falls as OWN ones do at hour T and 3 more (18 at most), as long as OWN ones at T.");
        for (int t = 6; t <= 18; t++) {
            int length = Math.abs(t - 12) + 1;
            due("shadow(3, " + t + ", 0)", x.shadow(3, t, 0), length);
            due("shadow(3, " + t + ", 1)", x.shadow(3, t, 1), t <= 8 ? 230 - length : 231);
            due("shadow(3, " + t + ", 2)", x.shadow(3, t, 2), t <= 8 ? 229 : 230 + length);
        }
    }

    private static void coveredCells() {
        told("It covers the cells beside the PERSON, as many as it is long, that way, from the next one on");
        ShadowTailor x = laid("p30,1,0,0;p31,9,0,20;");
        due("covers(30, 6), his own", x.covers(30, 6), 2);
        due("covers(29, 6), the next one", x.covers(29, 6), 3);
        due("covers(27, 6), the last one", x.covers(27, 6), 3);
        due("covers(26, 6), behind the last one", x.covers(26, 6), 2);
        due("covers(31, 6), the other way", x.covers(31, 6), 0);
        due("covers(31, 18), the next one", x.covers(31, 18), 1);
        due("covers(33, 18), the last one", x.covers(33, 18), 3);
        due("covers(34, 18), behind the last one", x.covers(34, 18), 2);
        due("covers(29, 18), the other way", x.covers(29, 18), 0);

        told("(also beyond the street)");
        ShadowTailor y = laid("p0,9,2,0;p60,9,2,0;p1,1,0,2;p59,1,0,2;");
        y.alter(0, 0);
        y.alter(1, 0);
        due("shadow(0, 6, 1)", y.shadow(0, 6, 1), 137);
        due("shadow(0, 6, 2)", y.shadow(0, 6, 2), 199);
        due("shadow(1, 18, 1)", y.shadow(1, 18, 1), 261);
        due("shadow(1, 18, 2)", y.shadow(1, 18, 2), 323);
        due("covers(0, 6)", y.covers(0, 6), 6);
        due("covers(60, 18)", y.covers(60, 18), 9);

        told("Whose SHADOWS cover a cell (0 to 60) at an hour, as bits. BAD.");
        due("covers(-1, 6)", y.covers(-1, 6), BAD);
        due("covers(61, 18)", y.covers(61, 18), BAD);
        due("covers(0, 5)", y.covers(0, 5), BAD);
        due("covers(0, 19)", y.covers(0, 19), BAD);
        ShadowTailor six = laid("p30,9,0,0;".repeat(6));
        bits("covers(29, 6) of six", six.covers(29, 6), 0, 1, 2, 3, 4, 5);
        due("covers(29, 12) of none", six.covers(29, 12), 0);

        told("how long it is (what = 0), the lowest cell that it covers, and 200 (1; NONE), the highest, and 200 (2; NONE). BAD.");
        ShadowTailor z = laid("p5,1,0,2;p5,1,0,3;");
        due("shadow(0, 6, 0), of one cell", z.shadow(0, 6, 0), 1);
        due("shadow(0, 6, 1), of one cell", z.shadow(0, 6, 1), 204);
        due("shadow(0, 6, 2), of one cell", z.shadow(0, 6, 2), 204);
        due("shadow(1, 6, 0), of none", z.shadow(1, 6, 0), 0);
        due("shadow(1, 6, 1), of none", z.shadow(1, 6, 1), NONE);
        due("shadow(1, 6, 2), of none", z.shadow(1, 6, 2), NONE);
        due("shadow(0, 6, 3)", z.shadow(0, 6, 3), BAD);
        due("shadow(0, 6, -1)", z.shadow(0, 6, -1), BAD);
        due("shadow(2, 6, 0)", z.shadow(2, 6, 0), BAD);
        due("shadow(0, 5, 0)", z.shadow(0, 5, 0), BAD);
        due("shadow(0, 19, 0)", z.shadow(0, 19, 0), BAD);
    }

    private static void standing() {
        told("A PERSON STANDS ON the SHADOW of another one, if he is at a cell that it covers.");
        ShadowTailor x = laid("p30,1,0,0;p30,1,0,20;p29,1,0,20;p27,1,0,20;p26,1,0,20;p31,1,0,20;");
        bits("stands(0, 6)", x.stands(0, 6), 2, 3);
        bits("stands(0, 18)", x.stands(0, 18), 5);
        bits("stands(0, 12)", x.stands(0, 12));
        bits("stands(1, 6)", x.stands(1, 6));
        ShadowTailor six = laid("p30,9,0,0;" + "p29,1,0,20;".repeat(5));
        bits("stands(0, 6) of five", six.stands(0, 6), 1, 2, 3, 4, 5);
        ShadowTailor last = laid("p29,1,0,20;".repeat(5) + "p30,9,0,0;");
        bits("stands(5, 6) of five", last.stands(5, 6), 0, 1, 2, 3, 4);

        told("Who STANDS ON a SHADOW at an hour, as bits. BAD.");
        bits("stands(5, 12) of nobody", last.stands(5, 12));
        bits("stands(5, 18) of nobody", last.stands(5, 18));
        bits("stands(0, 6) of nobody", last.stands(0, 6));
        due("stands(6, 6)", last.stands(6, 6), BAD);
        due("stands(-1, 6)", last.stands(-1, 6), BAD);
        due("stands(0, 5)", last.stands(0, 5), BAD);
        due("stands(0, 19)", last.stands(0, 19), BAD);

        told("WEAR of a SHADOW to an hour: in all hours from 6 to that one how many STAND ON it, together.");
        ShadowTailor y = laid("p30,1,1,0;" + "p31,1,0,20;".repeat(5) + "w0,6,30;");
        y.alter(0, 8);
        for (int i = 1; i <= 5; i++) {
            y.walk(i, 6, 29);
        }
        due("wear(0, 6), the first hour alone", y.wear(0, 6), 5);
        due("wear(0, 8)", y.wear(0, 8), 15);
        due("wear(0, 18)", y.wear(0, 18), 15);
        due("wear(1, 18) of none", y.wear(1, 18), 0);
        ShadowTailor all = laid("p30,9,1,0;" + "p29,1,0,20;".repeat(5) + "w1,9,31;w2,9,31;w3,9,31;w4,9,31;w5,9,31;");
        all.alter(0, 0);
        due("wear(0, 18) of all", all.wear(0, 18), 65);
        due("wear(0, 17)", all.wear(0, 17), 60);

        told("`int wear(int i, int t)`: WEAR to an hour. BAD.");
        due("wear(5, 6)", all.wear(5, 6), 0);
        due("wear(6, 6)", all.wear(6, 6), BAD);
        due("wear(-1, 6)", all.wear(-1, 6), BAD);
        due("wear(0, 5)", all.wear(0, 5), BAD);
        due("wear(0, 19)", all.wear(0, 19), BAD);
    }

    private static void changing() {
        told("A SHADOW can be taken in by 0 to 20, let out by as much as 9; a walk told.");
        ShadowTailor x = laid("p30,9,2,20;p30,9,2,0;");
        due("person(0, 2) taken in by 20", x.person(0, 2), 29);
        due("person(1, 2) taken in by 0", x.person(1, 2), 9);
        due("shadow(0, 6, 0)", x.shadow(0, 6, 0), 34);
        due("alter(1, 0)", x.alter(1, 0), 9);
        due("shadow(1, 6, 0) let out by 9", x.shadow(1, 6, 0), 63);

        told("A SHADOW is taken in by c less 9 (c 0 to 29; below 9: let out): what it was, likewise. BAD.");
        due("alter(0, 0)", x.alter(0, 0), 29);
        due("alter(0, 29)", x.alter(0, 29), 0);
        due("alter(0, 29) as it was", x.alter(0, 29), 29);
        due("alter(0, -1)", x.alter(0, -1), BAD);
        due("alter(0, 30)", x.alter(0, 30), BAD);
        due("alter(2, 9)", x.alter(2, 9), BAD);
        due("alter(-1, 9)", x.alter(-1, 9), BAD);
        due("person(0, 2)", x.person(0, 2), 29);
        due("count(7)", x.count(7), 4);

        told("A walk more: how many. BAD; FULL.");
        ShadowTailor y = new ShadowTailor();
        due("walk(0, 6, 0)", y.walk(0, 6, 0), 2);
        due("walk(3, 18, 60)", y.walk(3, 18, 60), 3);
        due("walk(4, 6, 0)", y.walk(4, 6, 0), BAD);
        due("walk(-1, 6, 0)", y.walk(-1, 6, 0), BAD);
        due("walk(0, 5, 0)", y.walk(0, 5, 0), BAD);
        due("walk(0, 19, 0)", y.walk(0, 19, 0), BAD);
        due("walk(0, 6, -1)", y.walk(0, 6, -1), BAD);
        due("walk(0, 6, 61)", y.walk(0, 6, 61), BAD);
        for (int n = 4; n <= 9; n++) {
            due("walk(0, 6, " + n + ")", y.walk(0, 6, n), n);
        }
        due("walk(0, 6, 1), the walk 10", y.walk(0, 6, 1), FULL);
        due("where(0, 6) stays", y.where(0, 6), 9);
        due("count(7) stays", y.count(7), 8);
        y.undo();
        due("walk(0, 6, 1) behind undo()", y.walk(0, 6, 1), 9);
        ShadowTailor full = laid("p0,1,0,0;" + "w0,6,1;".repeat(9));
        due("walk(0, 6, 2) behind nine of the text", full.walk(0, 6, 2), FULL);
        due("undo() of what was FULL", full.undo(), NO);
    }

    private static void undoing() {
        told("UNDONE is the latest of these (the last 8 can be).");
        ShadowTailor x = new ShadowTailor();
        for (int c = 0; c < 8; c++) {
            x.alter(0, 10 + c);
        }
        due("count(7) of 8", x.count(7), 8);
        x.walk(0, 6, 20);
        due("count(7) of 9", x.count(7), 8);
        due("undo()", x.undo(), 7);
        due("where(0, 6)", x.where(0, 6), 10);
        due("person(0, 2) stays", x.person(0, 2), 17);
        for (int n = 6; n >= 0; n--) {
            due("undo()", x.undo(), n);
            due("person(0, 2)", x.person(0, 2), 10 + n);
        }
        due("undo() of the ninth", x.undo(), NO);
        due("person(0, 2), the first stays", x.person(0, 2), 10);
        ShadowTailor each = laid("p0,1,0,0;p0,1,0,1;p0,1,0,2;p0,1,0,3;p0,1,0,4;p0,1,0,5;");
        for (int n = 0; n < 10; n++) {
            each.alter(n % 6, 20 + n % 6);
        }
        for (int n = 7; n >= 0; n--) {
            due("undo() of several", each.undo(), n);
        }
        due("undo() of the ninth", each.undo(), NO);
        for (int i = 0; i < 6; i++) {
            due("person(" + i + ", 2) of several", each.person(i, 2), i < 2 ? 20 + i : 9 + i);
        }

        told("UNDONE: how many more can be. NO.");
        ShadowTailor y = new ShadowTailor();
        due("undo() of nothing", y.undo(), NO);
        y.alter(0, 9);
        due("undo() of as it was", y.undo(), 0);
        due("undo()", y.undo(), NO);
        y.alter(0, 30);
        y.walk(0, 5, 0);
        due("undo() of what was BAD", y.undo(), NO);
        y.walk(0, 6, 1);
        y.walk(0, 6, 2);
        due("undo()", y.undo(), 1);
        due("where(0, 6)", y.where(0, 6), 1);
        y.alter(3, 0);
        due("undo()", y.undo(), 1);
        due("person(3, 2)", y.person(3, 2), 10);
        due("undo()", y.undo(), 0);
        due("where(0, 6)", y.where(0, 6), 10);
        due("count(1), that of the text stays", y.count(1), 1);
        due("undo()", y.undo(), NO);
        due("count(1)", y.count(1), 1);
    }

    // ---- 3, promises 15 to 23

    private static void firstIs(String when, ShadowTailor x, int hour, int whose, int who) {
        due("first(0) " + when, x.first(0), hour);
        due("first(1) " + when, x.first(1), whose);
        due("first(2) " + when, x.first(2), who);
        due("first(3) " + when, x.first(3), BAD);
        due("first(-1) " + when, x.first(-1), BAD);
    }

    private static void firstStoodOn() {
        told("FIRST: the first hour at which anybody STANDS ON a SHADOW; whose it is (the lowest); who does (the lowest).");
        firstIs("at 6", laid("p30,1,0,0;p27,1,0,20;"), 6, 0, 1);
        firstIs("at 18", laid("p30,1,0,0;p33,1,0,20;"), 18, 0, 1);
        firstIs("at noon", laid("p30,1,0,0;p0,1,0,20;w1,12,31;w1,13,0;"), NONE, NONE, NONE);
        firstIs("of two, the lowest", laid("p20,1,0,0;p27,1,0,20;p28,1,0,20;p30,1,0,0;p30,1,0,0;"), 6, 3, 1);
        firstIs("not of all who stand on any", laid("p40,1,0,20;p30,1,0,0;p29,1,0,20;p41,1,0,0;"), 6, 1, 2);
        firstIs("of five and 5", laid("p29,1,0,20;" + "p0,1,0,20;".repeat(4) + "p30,1,0,0;"), 6, 5, 0);
        firstIs("of 0 and 5", laid("p30,1,0,0;" + "p50,1,0,20;".repeat(4) + "p29,1,0,20;"), 6, 0, 5);

        told("FIRST: the hour (what = 0), whose (1), who (2). NONE; BAD.");
        firstIs("of one alone", laid("p30,9,2,0;"), NONE, NONE, NONE);
        firstIs("of six at one cell", laid("p30,9,2,0;".repeat(6)), NONE, NONE, NONE);
        firstIs("of two at one cell", laid("p30,9,2,0;p30,9,2,0;"), NONE, NONE, NONE);
        firstIs("of a cell too far", laid("p30,1,0,0;p26,1,0,20;p34,1,0,20;"), NONE, NONE, NONE);
    }

    private static void laws() {
        told("BROKEN: the first law (by number) that is not kept; none.");
        due("broken() as long as it may be", laid("p30,4,0,0;l0,8,8;").broken(), NONE);
        due("broken() 1 longer", laid("p30,4,0,0;l0,8,7;").broken(), 0);
        due("broken() of 0 cells", laid("p30,4,0,0;l0,12,0;").broken(), NONE);
        due("broken() of 1 cell", laid("p30,2,0,0;l0,11,0;").broken(), 0);
        due("broken(), the last law", laid("p30,4,0,0;" + "l0,8,8;".repeat(5) + "l0,18,11;").broken(), 5);
        due("broken(), two laws", laid("p30,4,0,0;l0,8,8;l0,6,0;l0,18,0;").broken(), 1);
        due("broken(), of another one", laid("p30,1,0,0;p30,4,0,0;l0,8,2;l1,8,7;").broken(), 1);
        ShadowTailor x = laid("p30,9,2,0;l0,6,60;");
        due("broken() of 60 by 54", x.broken(), NONE);
        x.alter(0, 3);
        due("broken() of 60 by 60", x.broken(), NONE);
        x.alter(0, 2);
        due("broken() of 60 by 61", x.broken(), 0);

        told("`int broken()`: BROKEN. NONE.");
        due("broken() without laws", laid("p30,9,2,0;").broken(), NONE);
        due("broken() of six that are kept", laid("p30,9,2,0;" + "l0,6,54;".repeat(6)).broken(), NONE);
    }

    private static void takingIn() {
        told("TAKEN: the least (0 to 20) by which a SHADOW would have to be taken in, instead of what it is,");
        ShadowTailor x = laid("p30,7,0,0;p30,7,0,0;l0,6,1;l1,6,0;p0,1,0,20;");
        due("taken(0, 12, 12) by 20", x.taken(0, 12, 12), 20);
        due("taken(1, 12, 12) by 21", x.taken(1, 12, 12), NONE);
        due("taken(2, 6, 18) by 0", x.taken(2, 6, 18), 0);
        x.alter(0, 0);
        x.alter(1, 29);
        due("taken(0, 12, 12) of one let out", x.taken(0, 12, 12), 20);
        due("taken(1, 12, 12) of one taken in", x.taken(1, 12, 12), NONE);
        due("person(1, 2) stays", x.person(1, 2), 29);

        told("so that nobody STANDS ON it at hours a to b and no law of it (at any hour) is broken; none.");
        // At 6 and 7 person 1 is 10 cells away, on a shadow that is 12 and 10 long.
        ShadowTailor y = laid("p30,4,0,0;p20,1,0,20;w1,9,19;w1,10,30;p0,4,0,0;l2,18,7;");
        due("taken(0, 6, 6)", y.taken(0, 6, 6), 3);
        due("taken(0, 7, 7), the last cell", y.taken(0, 7, 7), 1);
        due("taken(0, 8, 8), too far", y.taken(0, 8, 8), 0);
        due("taken(0, 6, 18), the first hour counts", y.taken(0, 6, 18), 3);
        due("taken(0, 7, 18)", y.taken(0, 7, 18), 1);
        due("taken(0, 8, 18)", y.taken(0, 8, 18), 0);
        due("taken(2, 6, 6), a law at 18", y.taken(2, 6, 6), 5);
        due("taken(0, 18, 18), by one rather than by the law", laid("p0,4,0,0;l0,18,7;p2,1,0,20;").taken(0, 18, 18), 11);
        due("taken(1, 6, 6), the next cell", laid("p29,1,0,20;p30,4,0,0;").taken(1, 6, 6), 12);
        due("taken(0, 18, 18), his own cell", laid("p30,4,0,0;p30,4,0,0;").taken(0, 18, 18), 0);
        due("taken(5, 6, 6), by 5", laid("p30,4,0,0;".repeat(5) + "p31,1,0,0;").taken(5, 6, 6), 3);
        due("taken(0, 18, 18), by 5", laid("p30,4,0,0;".repeat(5) + "p31,1,0,0;").taken(0, 18, 18), 12);
        due("taken(0, 6, 17)", laid("p0,4,0,0;p12,1,0,20;").taken(0, 6, 17), 0);
        due("taken(0, 6, 18), the last hour counts", laid("p0,4,0,0;p12,1,0,20;").taken(0, 6, 18), 1);

        told("`int taken(int i, int a, int b)`: TAKEN. NONE; BAD (b below a, too).");
        due("taken(0, 6, 6)", y.taken(0, 6, 6), 3);
        due("taken(0, 7, 6)", y.taken(0, 7, 6), BAD);
        due("taken(0, 18, 6)", y.taken(0, 18, 6), BAD);
        due("taken(0, 18, 18)", y.taken(0, 18, 18), 0);
        due("taken(0, 5, 6)", y.taken(0, 5, 6), BAD);
        due("taken(0, 18, 19)", y.taken(0, 18, 19), BAD);
        due("taken(0, 5, 19)", y.taken(0, 5, 19), BAD);
        due("taken(3, 6, 6)", y.taken(3, 6, 6), BAD);
        due("taken(-1, 6, 6)", y.taken(-1, 6, 6), BAD);
        due("taken(1, 7, 6) of none", x.taken(1, 7, 6), BAD);
    }

    private static void seeing() {
        told("SEEN (6 at most) is that at hour T the end of a SHADOW");
        ShadowTailor x = new ShadowTailor();
        for (int n = 1; n <= 6; n++) {
            due("seen(6, 0)", x.seen(6, 0), n);
        }
        due("seen(6, 0), the seventh", x.seen(6, 0), FULL);
        due("count(6)", x.count(6), 6);

        told("Nothing is SEEN: how many were.");
        due("forget() of six", x.forget(), 6);
        due("forget() of none", x.forget(), 0);
        due("seen(6, 0) behind forget()", x.seen(6, 0), 1);

        told("was at cell x less 40 (x 0 to 140)");
        ShadowTailor y = laid("p0,9,2,14;p60,9,2,14;");
        due("seen(6, 0)", y.seen(6, 0), 1);
        due("whose() ends at -40", y.whose(), 1);
        y.forget();
        due("seen(18, 140)", y.seen(18, 140), 1);
        due("whose() ends at 100", y.whose(), 2);

        told("SEEN: how many. BAD; FULL.");
        ShadowTailor w = new ShadowTailor();
        due("seen(6, -1)", w.seen(6, -1), BAD);
        due("seen(6, 141)", w.seen(6, 141), BAD);
        due("seen(5, 0)", w.seen(5, 0), BAD);
        due("seen(19, 0)", w.seen(19, 0), BAD);
        due("count(6)", w.count(6), 0);
        due("seen(6, 140)", w.seen(6, 140), 1);
        due("seen(18, 0)", w.seen(18, 0), 2);

        told("(the last cell that it covers; the PERSON's, if it covers none)");
        ShadowTailor z = laid("p30,1,0,0;p28,1,0,2;p27,1,0,3;p27,1,0,4;p26,1,0,20;w3,12,50;");
        z.seen(6, 67);
        bits("whose() ends at 27 at 6", z.whose(), 0, 1, 2, 3);
        z.forget();
        z.seen(12, 70);
        bits("whose() is at 30 at noon", z.whose(), 0);
        z.seen(18, 73);
        bits("whose() ends at 33 at 18 too", z.whose(), 0);

        told("those PERSONS (bits) by whose SHADOW, as it is now, all SEEN is so.");
        z.alter(0, 8);
        bits("whose() let out since", z.whose());
        z.undo();
        bits("whose() undone", z.whose(), 0);
        z.walk(0, 12, 29);
        bits("whose() walked since", z.whose());
        z.forget();

        told("`int whose()`: WHOSE, as bits.");
        bits("whose() of nothing seen", z.whose(), 0, 1, 2, 3, 4);
        bits("whose() of six", laid("p0,1,0,0;".repeat(6)).whose(), 0, 1, 2, 3, 4, 5);
        for (int t : new int[] {6, 6, 6, 6, 6, 18}) {
            z.seen(t, 67);
        }
        bits("whose() by the sixth", z.whose(), 2);
    }

    private static void lookIs(String when, ShadowTailor x, int hour, int many) {
        due("look(0) " + when, x.look(0), hour);
        due("look(1) " + when, x.look(1), many);
        due("look(2) " + when, x.look(2), BAD);
        due("look(-1) " + when, x.look(-1), BAD);
    }

    private static void looking() {
        told("LOOK: the hour by which, of those, those whose ends are alike are fewest at the worst, of several the first: it; how many");
        lookIs("of one", laid("p30,1,0,0;"), 6, 1);
        lookIs("of six alike", laid("p30,1,0,0;".repeat(6)), 6, 6);
        lookIs("at the last hour", laid("p30,1,0,0;p30,1,0,0;w1,18,31;"), 18, 1);
        lookIs("at the worst", laid("p10,1,0,20;p10,1,0,20;p10,1,0,20;p30,1,0,20;p30,1,0,20;w2,9,30;w4,9,40;"), 9, 2);
        lookIs("of several the first", laid("p30,1,0,0;p30,1,0,0;w1,9,31;w1,10,30;w1,12,31;"), 9, 1);

        told("of several the first: it; how many; none (nobody).");
        ShadowTailor nobody = laid("p30,1,0,0;");
        nobody.seen(12, 69);
        lookIs("of nobody", nobody, NONE, NONE);
        nobody.forget();
        nobody.seen(12, 70);
        lookIs("of one", nobody, 6, 1);

        told("LOOK: the hour (what = 0), how many (1). NONE; BAD.");
        ShadowTailor x = laid("p30,1,0,0;p30,1,0,0;p31,1,0,0;");
        lookIs("of three", x, 6, 2);
        x.seen(12, 71);
        lookIs("of the one that is left", x, 6, 1);
        x.seen(12, 70);
        lookIs("of nobody", x, NONE, NONE);
    }

    private static void cutIs(String stock, int seams, int waste, int... orders) {
        ShadowTailor x = laid("p0,1,0,0;" + stock);
        due("cut(-1) of " + stock, x.cut(-1), seams);
        due("cut(-2) of " + stock, x.cut(-2), waste);
        for (int r = 0; r < orders.length; r++) {
            due("cut(" + r + ") of " + stock, x.cut(r), orders[r]);
        }
        due("cut(" + orders.length + ") of " + stock, x.cut(orders.length), BAD);
        due("cut(-3) of " + stock, x.cut(-3), BAD);
    }

    private static void cutting() {
        told("each ORDER is made of REMNANTS, as they are, together as long as it or more, each for one ORDER alone");
        cutIs("o5;r5;", 0, 0, 0);
        cutIs("o5;r4;", NONE, NONE, NONE);
        cutIs("o5;r6;", 0, 1, 0);
        cutIs("o5;r2;r3;", 1, 0, 0, 0);
        cutIs("o5;r2;r2;", NONE, NONE, NONE, NONE);
        cutIs("o5;o5;r40;", NONE, NONE, NONE);
        cutIs("o5;o5;r40;r5;", 0, 35, 0, 1);
        cutIs("o60;r40;r19;", NONE, NONE, NONE, NONE);
        cutIs("o60;r40;r20;", 1, 0, 0, 0);
        cutIs("o60;o60;o60;" + "r40;".repeat(7), 3, 60, 0, 0, 1, 1, 2, 2, NONE);

        told("of all ways that with fewest REMNANTS (SEAMS: these less the ORDERS)");
        cutIs("o5;r2;r3;r40;", 0, 35, NONE, NONE, 0);
        cutIs("o10;o1;r9;r1;r1;r40;", 0, 30, NONE, 1, NONE, 0);
        cutIs("o10;o10;o10;r10;r9;r10;r1;r10;", 0, 0, 0, NONE, 1, NONE, 2);
        cutIs("o7;" + "r1;".repeat(7), 6, 0, 0, 0, 0, 0, 0, 0, 0);

        told("SEAMS; waste; for which ORDER a REMNANT is; none.");
        cutIs("o60;o60;o60;" + "r30;".repeat(6), 3, 0, 0, 0, 1, 1, 2, 2);
        cutIs("o60;o60;o60;" + "r30;".repeat(5) + "r29;", NONE, NONE, NONE, NONE, NONE, NONE, NONE, NONE);

        told("CUT: SEAMS (r = -1), waste (-2), for which ORDER a REMNANT is (NONE: for none). NONE; BAD.");
        cutIs("", 0, 0);
        cutIs("r5;", 0, 0, NONE);
        cutIs("o1;", NONE, NONE);
        cutIs("o1;r1;r1;", 0, 0, 0, NONE);
        cutIs("o1;o1;o1;r1;r1;", NONE, NONE, NONE, NONE);
    }

    private static void cuttingTies() {
        told("of several that with least waste (what is used less what is ordered)");
        cutIs("o5;r7;r6;r8;", 0, 1, NONE, 0, NONE);
        cutIs("o9;r8;r8;r2;r1;", 1, 0, 0, NONE, NONE, 0);
        cutIs("o9;o3;r3;r10;r9;r4;", 0, 0, 1, NONE, 0, NONE);

        told("of several the first (by the ORDER for which REMNANT 0 is, the lowest, for none last, then REMNANT 1, ..)");
        cutIs("o5;o5;r5;r5;", 0, 0, 0, 1);
        cutIs("o5;r5;r5;", 0, 0, 0, NONE);
        cutIs("o5;o4;r4;r5;r4;r5;", 0, 0, 1, 0, NONE, NONE);
        cutIs("o6;o6;r3;r3;r3;r3;r3;", 2, 0, 0, 0, 1, 1, NONE);
        cutIs("o6;o6;r1;r5;r2;r4;", 2, 0, 0, 0, 1, 1);
        cutIs("o6;r5;r3;r3;r1;", 1, 0, 0, NONE, NONE, 0);
    }

    private static void fittingsAre(String items, int late, int hours, int... order) {
        ShadowTailor x = laid("p0,1,0,0;" + items);
        due("fittings(-1) of " + items, x.fittings(-1), late);
        due("fittings(-2) of " + items, x.fittings(-2), hours);
        for (int k = 0; k < order.length; k++) {
            due("fittings(" + k + ") of " + items, x.fittings(k), order[k]);
        }
        due("fittings(" + order.length + ") of " + items, x.fittings(order.length), BAD);
        due("fittings(-3) of " + items, x.fittings(-3), BAD);
    }

    private static void fitting() {
        told("LATE is one that is done behind more hours than it is due.");
        fittingsAre("f9,9;", 0, 0, 0);
        fittingsAre("f9,10;", 0, 0, 0);
        fittingsAre("f9,8;", 1, 1, 0);
        fittingsAre("f2,5;f3,5;", 0, 0, 0, 1);
        fittingsAre("f2,4;f3,4;", 1, 1, 0, 1);
        fittingsAre("f9,54;".repeat(6), 0, 0, 0, 1, 2, 3, 4, 5);
        fittingsAre("f9,53;".repeat(6), 1, 1, 0, 1, 2, 3, 4, 5);

        told("Of all orders that with fewest LATE, of several that with the least hours late together, of several the first");
        fittingsAre("f9,9;f2,10;f2,12;", 1, 3, 0, 2, 1);
        fittingsAre("f9,9;f1,1;f1,10;", 1, 2, 1, 2, 0);
        fittingsAre("f1,1;f1,1;f1,1;", 2, 3, 0, 1, 2);
        fittingsAre("f1,9;f1,9;f1,1;", 0, 0, 2, 0, 1);
        fittingsAre("f1,60;".repeat(6), 0, 0, 0, 1, 2, 3, 4, 5);

        told("how many; hours; which FITTING is the k-th; none (there are none).");
        fittingsAre("f9,1;".repeat(6), 6, 183, 0, 1, 2, 3, 4, 5);
        fittingsAre("f9,1;f8,1;", 2, 23, 1, 0);
        due("fittings(-1) of none", laid("p0,1,0,0;r1;o1;").fittings(-1), NONE);

        told("FITTINGS: LATE (k = -1), hours (-2), the k-th (0 first). BAD (without FITTINGS 0 is none); NONE.");
        ShadowTailor none = laid("p0,1,0,0;");
        due("fittings(0) of none", none.fittings(0), NONE);
        due("fittings(-1) of none", none.fittings(-1), NONE);
        due("fittings(-2) of none", none.fittings(-2), NONE);
        due("fittings(-3) of none", none.fittings(-3), BAD);
        due("fittings(1) of none", none.fittings(1), BAD);
        fittingsAre("f1,1;", 0, 0, 0);
    }

    // ---- 4, promises 24 to 31

    private static void watchersAre(String persons, int t, int many, int lowest) {
        ShadowTailor x = laid(persons);
        due("watchers(" + t + ", 0) of " + persons, x.watchers(t, 0), many);
        due("watchers(" + t + ", 1) of " + persons, x.watchers(t, 1), lowest);
        due("watchers(" + t + ", 2) of " + persons, x.watchers(t, 2), BAD);
        due("watchers(" + t + ", -1) of " + persons, x.watchers(t, -1), BAD);
    }

    private static void watching() {
        told("the fewest cells such that each SHADOW that covers any covers one of these");
        watchersAre("p30,1,0,2;", 6, 1, 229);
        watchersAre("p30,1,0,2;p40,1,0,3;", 6, 1, 229);
        watchersAre("p30,1,0,0;p33,1,0,0;", 6, 2, 229);
        watchersAre("p30,1,0,0;p32,1,0,0;", 6, 1, 229);
        watchersAre("p30,1,0,0;p34,1,0,0;p38,1,0,0;p42,1,0,0;p46,1,0,0;p50,1,0,0;", 18, 6, 233);
        watchersAre("p30,1,0,0;".repeat(6), 18, 1, 233);

        told("the highest cell that the lowest of so many can be, and 200; none (no SHADOW covers any cell).");
        watchersAre("p30,1,0,0;", 18, 1, 233);
        watchersAre("p30,3,0,0;p30,1,0,0;", 18, 1, 233);
        watchersAre("p0,1,0,0;", 6, 1, 199);
        watchersAre("p60,9,2,0;", 18, 1, 314);
        watchersAre("p30,9,2,0;", 12, NONE, NONE);
        watchersAre("p30,1,0,20;p40,1,0,20;", 6, NONE, NONE);

        told("WATCHERS: how many (what = 0), the lowest cell, and 200 (1). NONE; BAD.");
        ShadowTailor x = laid("p0,9,2,0;p60,9,2,0;");
        x.alter(0, 0);
        x.alter(1, 0);
        due("watchers(6, 0), the cell -1 for both", x.watchers(6, 0), 1);
        due("watchers(6, 1), the cell -1 for both", x.watchers(6, 1), 199);
        due("watchers(18, 0), the cell 63 for both", x.watchers(18, 0), 1);
        due("watchers(18, 1), the cell 63 for both", x.watchers(18, 1), 263);
        due("watchers(12, 1) let out", x.watchers(12, 1), 209);
        due("watchers(5, 0)", x.watchers(5, 0), BAD);
        due("watchers(19, 0)", x.watchers(19, 0), BAD);
    }

    private static void fellingAPoplar() {
        told("two cut by turns 1 to m (1 to 9) cells of a poplar of n (1 to 99); who cuts the last one has lost");
        ShadowTailor x = new ShadowTailor();
        for (int m = 1; m <= 9; m++) {
            due("poplar(1, " + m + ")", x.poplar(1, m), 0);
            due("poplar(2, " + m + ")", x.poplar(2, m), 1);
            due("poplar(" + (m + 1) + ", " + m + ")", x.poplar(m + 1, m), m);
            due("poplar(" + (m + 2) + ", " + m + ")", x.poplar(m + 2, m), 0);
            due("poplar(" + (m + 3) + ", " + m + ")", x.poplar(m + 3, m), 1);
        }
        due("poplar(99, 1)", x.poplar(99, 1), 0);
        due("poplar(98, 1)", x.poplar(98, 1), 1);
        due("poplar(99, 9)", x.poplar(99, 9), 8);

        told("how many the first one has to cut to win (0: he can not).");
        for (int n = 1; n <= 99; n++) {
            due("poplar(" + n + ", 1)", x.poplar(n, 1), n % 2 == 0 ? 1 : 0);
            due("poplar(" + n + ", 9)", x.poplar(n, 9), (n + 9) % 10);
        }

        told("`int poplar(int n, int m)`: POPLAR. BAD.");
        due("poplar(0, 1)", x.poplar(0, 1), BAD);
        due("poplar(100, 1)", x.poplar(100, 1), BAD);
        due("poplar(1, 0)", x.poplar(1, 0), BAD);
        due("poplar(1, 10)", x.poplar(1, 10), BAD);
        due("poplar(1, -1)", x.poplar(1, -1), BAD);
        due("poplar(-1, 1)", x.poplar(-1, 1), BAD);
    }

    private static void lighting() {
        told("LIGHT: how many of the cells 0 to 60 no SHADOW covers at hour T.");
        due("light(12)", laid("p30,9,2,0;").light(12), 61);
        due("light(6), all below 0", laid("p0,9,2,0;").light(6), 61);
        due("light(18), all above 60", laid("p60,9,2,0;").light(18), 61);
        due("light(6), the cell 0", laid("p1,1,0,0;").light(6), 60);
        due("light(18), the cell 60", laid("p59,1,0,0;").light(18), 60);
        due("light(6), two on a cell", laid("p30,1,0,0;p31,1,0,0;").light(6), 57);
        ShadowTailor x = laid("p60,9,2,0;p59,1,1,0;");
        x.alter(0, 0);
        due("light(6), all but 60", x.light(6), 1);
        // At 9: 25 to 59, -10 to 24, 60.
        ShadowTailor dark = laid("p60,9,2,0;p25,9,2,0;p59,1,1,0;");
        dark.alter(0, 0);
        dark.alter(1, 0);
        due("light(9), none of all", dark.light(9), 0);

        told("`int light(int t)`: LIGHT. BAD.");
        due("light(5)", x.light(5), BAD);
        due("light(19)", x.light(19), BAD);
        due("light(18)", x.light(18), 60);
    }

    private static void cloudsAre(ShadowTailor x, int a, int b, int chance, long above, long below) {
        String call = "clouds(0, " + a + ", " + b + ", " + chance + ", ";
        due(call + "0)", x.clouds(0, a, b, chance, 0), above);
        due(call + "1)", x.clouds(0, a, b, chance, 1), below);
    }

    private static void cloudsByChance() {
        told("each hour has a cloud by the chance of x (0 to 10) of ten (no SHADOW falls then)");
        ShadowTailor x = laid("p30,9,0,0;p29,1,0,20;p31,1,0,20;");
        x.alter(0, 0);
        cloudsAre(x, 6, 18, 0, 0, 1);
        cloudsAre(x, 6, 18, 10, 1, 1);
        cloudsAre(x, 6, 18, 1, 1, 10_000_000_000_000L);
        cloudsAre(x, 6, 18, 9, 2_541_865_828_329L, 10_000_000_000_000L);

        told("the chance that nobody STANDS ON a SHADOW at hours a to b, in lowest terms.");
        int[] above = {1, 1, 3, 2, 1, 3, 7, 4, 9};
        int[] below = {10, 5, 10, 5, 2, 5, 10, 5, 10};
        for (int chance = 1; chance <= 9; chance++) {
            cloudsAre(x, 12, 12, chance, above[chance - 1], below[chance - 1]);
            cloudsAre(x, 6, 7, chance, above[chance - 1] * above[chance - 1], below[chance - 1] * below[chance - 1]);
        }
        ShadowTailor never = laid("p30,9,0,0;p30,1,0,20;");
        for (int chance = 0; chance <= 10; chance++) {
            cloudsAre(never, 6, 18, chance, 1, 1);
        }
        ShadowTailor late = laid("p30,9,0,0;p30,1,0,20;w1,18,31;");
        cloudsAre(late, 6, 17, 0, 1, 1);
        cloudsAre(late, 6, 18, 0, 0, 1);
        cloudsAre(late, 18, 18, 3, 3, 10);
        ShadowTailor two = laid("p30,9,0,0;p30,1,0,20;p30,1,0,20;w1,18,31;w2,18,32;");
        cloudsAre(two, 6, 18, 5, 1, 2);

        told("CLOUDS: above (part = 0), below (1). BAD (b below a, too).");
        due("clouds(0, 7, 6, 5, 0)", x.clouds(0, 7, 6, 5, 0), BAD);
        due("clouds(0, 5, 6, 5, 0)", x.clouds(0, 5, 6, 5, 0), BAD);
        due("clouds(0, 18, 19, 5, 0)", x.clouds(0, 18, 19, 5, 0), BAD);
        due("clouds(0, 6, 6, -1, 0)", x.clouds(0, 6, 6, -1, 0), BAD);
        due("clouds(0, 6, 6, 11, 0)", x.clouds(0, 6, 6, 11, 0), BAD);
        due("clouds(0, 6, 6, 5, -1)", x.clouds(0, 6, 6, 5, -1), BAD);
        due("clouds(0, 6, 6, 5, 2)", x.clouds(0, 6, 6, 5, 2), BAD);
        due("clouds(3, 6, 6, 5, 0)", x.clouds(3, 6, 6, 5, 0), BAD);
        due("clouds(-1, 6, 6, 5, 0)", x.clouds(-1, 6, 6, 5, 0), BAD);
    }

    private static int drawn(int z, int t, int i) {
        long q = 7919L * z + 6151L * t + 3571L * i + 1;
        return (int) (q * q % 65521 % 61);
    }

    private static void daysByDraws() {
        told("A DAY by z (0 to 9999): at each hour T (6 first) PERSON i is at cell ((q times q) modulo 65521) modulo 61");
        String persons = "p0,1,0,0;p0,2,1,0;p0,3,2,0;p0,4,3,0;p0,5,0,5;p0,9,1,20;";
        ShadowTailor x = laid(persons);
        for (int z : new int[] {0, 1, 4999, 9998, 9999}) {
            dayIs(x, persons, z);
        }
        due("where(0, 6) stays", x.where(0, 6), 0);
        due("day(-1, 0)", x.day(-1, 0), BAD);
        due("day(10000, 0)", x.day(10000, 0), BAD);

        told("how many STAND ON all SHADOWS in all hours together; the first hour at which anybody does; none.");
        ShadowTailor short6 = laid("p0,1,0,20;".repeat(6));
        for (int z = 0; z <= 9999; z += 1111) {
            due("day(" + z + ", 0) of no shadow", short6.day(z, 0), 0);
            due("day(" + z + ", 1) of no shadow", short6.day(z, 1), NONE);
        }

        told("A DAY: how many (what = 0), the first hour (1; NONE). BAD.");
        ShadowTailor alone = laid("p30,9,2,0;");
        due("day(0, 0) alone", alone.day(0, 0), 0);
        due("day(0, 1) alone", alone.day(0, 1), NONE);
        due("day(0, 2) alone", alone.day(0, 2), BAD);
        due("day(0, -1) alone", alone.day(0, -1), BAD);
        ShadowTailor two = laid("p30,9,2,20;p30,1,0,20;");
        boolean[] hours = new boolean[19];
        for (int z = 0; z < 120; z++) {
            int first = firstDrawn(z);
            due("day(" + z + ", 1)", two.day(z, 1), first);
            hours[Math.max(0, first)] = true;
        }
        due("a day at 6 is among them", hours[6] ? 1 : 0, 1);
        due("a day without any is among them", hours[0] ? 1 : 0, 1);
        for (int z = 0; z < 9999 && !hours[18]; z++) {
            if (firstDrawn(z) == 18) {
                hours[18] = true;
                due("day(" + z + ", 1), the last hour", two.day(z, 1), 18);
                due("day(" + z + ", 0), the last hour", two.day(z, 0), 1);
            }
        }
    }

    /** The first hour at which, by draw, person 1 is on the shadow of person 0: 9 high, LENT, taken in by 20. */
    private static int firstDrawn(int z) {
        for (int t = 6; t <= 18; t++) {
            int length = Math.max(0, 2 * (9 * Math.abs(t - 12) / 2) - 20);
            int apart = (drawn(z, t, 1) - drawn(z, t, 0)) * (t < 12 ? -1 : 1);
            if (apart > 0 && apart <= length) {
                return t;
            }
        }
        return NONE;
    }

    /** The shadows are as long and fall as `shadow` says: that has tests of its own. */
    private static void dayIs(ShadowTailor x, String persons, int z) {
        ShadowTailor still = laid(persons);
        int together = 0;
        int first = NONE;
        for (int t = 6; t <= 18; t++) {
            for (int i = 0; i < 6; i++) {
                int length = still.shadow(i, t, 0);
                boolean isLower = t < (still.person(i, 1) == 1 ? 9 : 12);
                for (int j = 0; j < 6; j++) {
                    int apart = (drawn(z, t, j) - drawn(z, t, i)) * (isLower ? -1 : 1);
                    if (apart > 0 && apart <= length) {
                        together++;
                        first = first == NONE ? t : first;
                    }
                }
            }
        }
        due("day(" + z + ", 0)", x.day(z, 0), together);
        due("day(" + z + ", 1)", x.day(z, 1), first);
    }

    private static void keeping() {
        told("KEPT are what is taken in, walks: 2 at most.");
        ShadowTailor x = new ShadowTailor();
        x.alter(0, 0);
        x.walk(0, 6, 1);
        due("keep()", x.keep(), 1);
        x.alter(0, 29);
        x.walk(0, 6, 2);
        due("keep()", x.keep(), 2);
        x.alter(0, 15);
        x.walk(0, 6, 3);

        told("KEPT: how many. FULL.");
        due("keep(), the third", x.keep(), FULL);
        due("count(8)", x.count(8), 2);
        due("count(7) stays", x.count(7), 6);

        told("As KEPT last: how many are left; nothing is UNDONE then. NO.");
        x.seen(6, 0);
        due("back()", x.back(), 1);
        due("person(0, 2)", x.person(0, 2), 29);
        due("where(0, 6)", x.where(0, 6), 2);
        due("count(1)", x.count(1), 3);
        due("count(7)", x.count(7), 0);
        due("undo()", x.undo(), NO);
        due("count(6) stays", x.count(6), 1);
        x.alter(0, 3);
        due("keep() behind back()", x.keep(), 2);
        due("back()", x.back(), 1);
        due("person(0, 2)", x.person(0, 2), 3);
        due("back()", x.back(), 0);
        due("person(0, 2)", x.person(0, 2), 0);
        due("where(0, 6)", x.where(0, 6), 1);
        due("count(1)", x.count(1), 2);
        x.alter(0, 7);
        due("back() of none", x.back(), NO);
        due("person(0, 2) stays", x.person(0, 2), 7);
        due("count(7) stays", x.count(7), 1);
        keepingAtTheEdges();
    }

    private static void keepingAtTheEdges() {
        ShadowTailor undone = laid("p0,1,0,0;p9,1,0,0;");
        undone.walk(0, 7, 5);
        undone.keep();
        undone.undo();
        undone.walk(1, 8, 6);
        due("where(0, 7) undone", undone.where(0, 7), 0);
        due("back() to a walk that is undone", undone.back(), 0);
        due("where(0, 6)", undone.where(0, 6), 0);
        due("where(0, 7)", undone.where(0, 7), 5);
        due("where(1, 8)", undone.where(1, 8), 9);
        due("count(1)", undone.count(1), 1);
        ShadowTailor full = laid("p0,1,0,0;".repeat(6));
        full.alter(5, 0);
        full.keep();
        for (int n = 1; n <= 9; n++) {
            full.walk(5, 6, n);
        }
        full.alter(5, 29);
        full.keep();
        due("back() to nine walks", full.back(), 1);
        due("count(1)", full.count(1), 9);
        due("where(5, 6)", full.where(5, 6), 9);
        due("person(5, 2)", full.person(5, 2), 29);
        due("walk(5, 6, 1)", full.walk(5, 6, 1), FULL);
        due("back() to no walk", full.back(), 0);
        due("count(1)", full.count(1), 0);
        due("where(5, 6)", full.where(5, 6), 0);
        due("person(5, 2)", full.person(5, 2), 0);
    }

    private static void counting() {
        told("8 KEPT, 9 letters of THE TEXT. BAD.");
        ShadowTailor x = laid("p0,1,0,0;".repeat(6) + "w0,6,0;".repeat(8) + "l0,6,0;".repeat(6) + "r1;o1;f1,1;");
        x.walk(0, 6, 0);
        int[] counts = {6, 9, 6, 1, 1, 1, 0, 1, 0, 163};
        for (int what = 0; what <= 9; what++) {
            due("count(" + what + ")", x.count(what), counts[what]);
        }
        due("count(-1)", x.count(-1), BAD);
        due("count(10)", x.count(10), BAD);
        ShadowTailor y = laid("r1;".repeat(7) + "o1;".repeat(3) + "f1,1;".repeat(6) + "p0,1,0,0;");
        int[] others = {1, 0, 0, 7, 3, 6, 6, 8, 2, 0};
        for (int n = 0; n < 9; n++) {
            y.alter(0, n);
            y.seen(6, 0);
            y.keep();
        }
        y.wipe();
        for (int what = 0; what <= 9; what++) {
            due("count(" + what + ") at its most", y.count(what), others[what]);
        }
    }

    private static void ofSeveralTheFirst() {
        told("NO: not as things stand. NONE: there is none. FULL. Of several the first; nothing changes then.");
        ShadowTailor x = written("~".repeat(200));
        due("write(127), BAD and FULL", x.write(127), BAD);
        for (int n = 0; n < 8; n++) {
            x.walk(0, 6, n);
        }
        due("walk(4, 6, 0), BAD and FULL", x.walk(4, 6, 0), BAD);
        due("walk(0, 5, 0), BAD and FULL", x.walk(0, 5, 0), BAD);
        due("walk(0, 6, 61), BAD and FULL", x.walk(0, 6, 61), BAD);
        for (int n = 0; n < 6; n++) {
            x.seen(6, 0);
        }
        due("seen(5, 0), BAD and FULL", x.seen(5, 0), BAD);
        due("seen(6, 141), BAD and FULL", x.seen(6, 141), BAD);
        due("look(2), BAD and NONE", x.look(2), BAD);
        ShadowTailor y = laid("p30,1,0,3;o5;r4;");
        due("first(3), BAD and NONE", y.first(3), BAD);
        due("cut(1), BAD and NONE", y.cut(1), BAD);
        due("fittings(1), BAD and NONE", y.fittings(1), BAD);
        due("watchers(6, 2), BAD and NONE", y.watchers(6, 2), BAD);
        due("shadow(0, 6, 3), BAD and NONE", y.shadow(0, 6, 3), BAD);

        told("Cells that may be below 0 are told 200 more.");
        ShadowTailor z = laid("p0,1,0,2;p1,1,0,2;");
        due("shadow(0, 6, 1) at -1", z.shadow(0, 6, 1), 199);
        due("shadow(0, 6, 2) at -1", z.shadow(0, 6, 2), 199);
        due("shadow(1, 6, 1) at 0", z.shadow(1, 6, 1), 200);
        due("watchers(6, 1) at -1", z.watchers(6, 1), 199);
    }
}
