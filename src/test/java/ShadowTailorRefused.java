import java.util.ArrayList;
import java.util.List;

/** A call that is refused (BAD, NO, NONE, FULL) changes nothing; each number of each call is tried at and beside its ends. */
public final class ShadowTailorRefused {
    private static final int BAD = -1, NO = -2, FULL = -3;
    private static final int[] FAR = {Integer.MIN_VALUE, Integer.MIN_VALUE + 1, Integer.MAX_VALUE, -1_000_000, 1_000_000, -5, -32, -64,
        256, 1 << 16, 1 << 24};
    private static final String PERSONS = "p10,4,0,0;p16,2,1,0;p30,6,2,3;p33,3,3,1;";

    private static int wrong;
    private static int asked;

    private interface Call {
        long on(ShadowTailor x, int number);
    }

    private interface History {
        void on(ShadowTailor x);
    }

    public static void main(String[] args) {
        numbersOfShops();
        numbersOfChanges();
        numbersOfTheRest();
        refusedAsThingsStand();
        asks();
        System.out.println(wrong == 0 ? asked + " calls are as due" : wrong + " calls are not as due");
        if (wrong != 0) {
            System.exit(1);
        }
    }

    private static void due(String call, String got, String want) {
        asked++;
        if (!got.equals(want)) {
            wrong++;
            System.out.println(call + " answered " + got + ", due is " + want);
        }
    }

    private static void write(ShadowTailor x, String text) {
        for (int k = 0; k < text.length(); k++) {
            x.write(text.charAt(k));
        }
    }

    /** What has been changed, seen, kept and written, so that a change of any of it shows. */
    private static void live(ShadowTailor x) {
        write(x, PERSONS + "w0,7,8;r1;");
        x.seen(8, 49);
        x.seen(9, 50);
        x.alter(0, 0);
        x.walk(1, 8, 33);
        x.keep();
        x.alter(0, 29);
        x.walk(0, 18, 60);
    }

    /** All that later calls can tell of an object; it is used up by this. */
    private static String all(ShadowTailor x) {
        List<Long> answers = new ArrayList<>();
        tell(x, answers);
        for (int n = 0; n < 3; n++) {
            answers.add((long) x.undo());
            tellChanges(x, answers);
        }
        for (int n = 0; n < 3; n++) {
            answers.add((long) x.back());
            tellChanges(x, answers);
        }
        answers.add((long) x.fault());
        answers.add((long) x.lay());
        tell(x, answers);
        answers.add((long) x.wipe());
        return answers.toString();
    }

    private static void tell(ShadowTailor x, List<Long> answers) {
        for (int what = 0; what <= 9; what++) {
            answers.add((long) x.count(what));
        }
        for (int i = 0; i < 6; i++) {
            for (int what = 0; what <= 2; what++) {
                answers.add((long) x.person(i, what));
            }
        }
        tellChanges(x, answers);
        answers.add((long) x.whose());
        answers.add((long) x.broken());
        answers.add((long) x.look(0));
        for (int n = -2; n < 3; n++) {
            answers.add((long) x.cut(n));
            answers.add((long) x.fittings(n));
        }
    }

    private static void tellChanges(ShadowTailor x, List<Long> answers) {
        for (int i = 0; i < 4; i++) {
            answers.add((long) x.person(i, 2));
            for (int t = 6; t <= 18; t += 4) {
                answers.add((long) x.where(i, t));
            }
        }
        answers.add((long) x.count(1));
        answers.add((long) x.count(7));
    }

    /** An object with this history tells all the same, whether that call came or not. */
    private static void changesNothing(String name, History history, Call call, int number, long want) {
        ShadowTailor one = new ShadowTailor();
        history.on(one);
        due(name, "" + call.on(one, number), "" + want);
        ShadowTailor other = new ShadowTailor();
        history.on(other);
        due("all behind " + name, all(one), all(other));
    }

    /** From least to most the number is one that is told; beside them and far away it is BAD. */
    private static void numbers(String name, int least, int most, Call call) {
        for (int number = least; number <= most; number++) {
            ShadowTailor x = new ShadowTailor();
            live(x);
            due(name + " of " + number + " is told", "" + (call.on(x, number) == BAD), "false");
        }
        List<Integer> beside = new ArrayList<>(List.of(least - 1, most + 1, least - 2, most + 2, most + 32, most + 64));
        for (int far : FAR) {
            beside.add(far);
            beside.add(far + least);
        }
        for (int number : beside) {
            if (number < least || number > most) {
                changesNothing(name + " of " + number, ShadowTailorRefused::live, call, number, BAD);
            }
        }
    }

    private static void numbersOfShops() {
        numbers("write(#)", 32, 126, (x, n) -> x.write(n));
        numbers("person(#, 0)", 0, 3, (x, n) -> x.person(n, 0));
        numbers("person(0, #)", 0, 2, (x, n) -> x.person(0, n));
        numbers("where(#, 6)", 0, 3, (x, n) -> x.where(n, 6));
        numbers("where(0, #)", 6, 18, (x, n) -> x.where(0, n));
        numbers("shadow(#, 6, 0)", 0, 3, (x, n) -> x.shadow(n, 6, 0));
        numbers("shadow(0, #, 0)", 6, 18, (x, n) -> x.shadow(0, n, 0));
        numbers("shadow(0, 6, #)", 0, 2, (x, n) -> x.shadow(0, 6, n));
        numbers("covers(#, 6)", 0, 60, (x, n) -> x.covers(n, 6));
        numbers("covers(0, #)", 6, 18, (x, n) -> x.covers(0, n));
        numbers("stands(#, 6)", 0, 3, (x, n) -> x.stands(n, 6));
        numbers("stands(0, #)", 6, 18, (x, n) -> x.stands(0, n));
        numbers("wear(#, 6)", 0, 3, (x, n) -> x.wear(n, 6));
        numbers("wear(0, #)", 6, 18, (x, n) -> x.wear(0, n));
    }

    private static void numbersOfChanges() {
        numbers("alter(#, 9)", 0, 3, (x, n) -> x.alter(n, 9));
        numbers("alter(0, #)", 0, 29, (x, n) -> x.alter(0, n));
        numbers("walk(#, 6, 0)", 0, 3, (x, n) -> x.walk(n, 6, 0));
        numbers("walk(0, #, 0)", 6, 18, (x, n) -> x.walk(0, n, 0));
        numbers("walk(0, 6, #)", 0, 60, (x, n) -> x.walk(0, 6, n));
        numbers("seen(#, 0)", 6, 18, (x, n) -> x.seen(n, 0));
        numbers("seen(6, #)", 0, 140, (x, n) -> x.seen(6, n));
    }

    private static void numbersOfTheRest() {
        numbers("first(#)", 0, 2, (x, n) -> x.first(n));
        numbers("taken(#, 6, 18)", 0, 3, (x, n) -> x.taken(n, 6, 18));
        numbers("taken(0, #, 18)", 6, 18, (x, n) -> x.taken(0, n, 18));
        numbers("taken(0, 6, #)", 6, 18, (x, n) -> x.taken(0, 6, n));
        numbers("taken(0, 9, #)", 9, 18, (x, n) -> x.taken(0, 9, n));
        numbers("look(#)", 0, 1, (x, n) -> x.look(n));
        numbers("cut(#)", -2, 3, (x, n) -> x.cut(n));
        numbers("fittings(#)", -2, 2, (x, n) -> x.fittings(n));
        numbers("watchers(#, 0)", 6, 18, (x, n) -> x.watchers(n, 0));
        numbers("watchers(6, #)", 0, 1, (x, n) -> x.watchers(6, n));
        numbers("poplar(#, 1)", 1, 99, (x, n) -> x.poplar(n, 1));
        numbers("poplar(1, #)", 1, 9, (x, n) -> x.poplar(1, n));
        numbers("light(#)", 6, 18, (x, n) -> x.light(n));
        numbers("clouds(#, 6, 18, 5, 0)", 0, 3, (x, n) -> x.clouds(n, 6, 18, 5, 0));
        numbers("clouds(0, #, 18, 5, 0)", 6, 18, (x, n) -> x.clouds(0, n, 18, 5, 0));
        numbers("clouds(0, 6, #, 5, 0)", 6, 18, (x, n) -> x.clouds(0, 6, n, 5, 0));
        numbers("clouds(0, 9, #, 5, 0)", 9, 18, (x, n) -> x.clouds(0, 9, n, 5, 0));
        numbers("clouds(0, 6, 18, #, 0)", 0, 10, (x, n) -> x.clouds(0, 6, 18, n, 0));
        numbers("clouds(0, 6, 18, 5, #)", 0, 1, (x, n) -> x.clouds(0, 6, 18, 5, n));
        numbers("day(7, #)", 0, 1, (x, n) -> x.day(7, n));
        numbers("count(#)", 0, 9, (x, n) -> x.count(n));
        numbers("day(#, 0)", 0, 9999, (x, n) -> x.day(n, 0));
    }

    private static void refusedAsThingsStand() {
        changesNothing("write(112), FULL", x -> {
            live(x);
            write(x, ";".repeat(150));
        }, (x, n) -> x.write(112), 0, FULL);
        changesNothing("lay() of none, NO", x -> {
            live(x);
            x.wipe();
        }, (x, n) -> x.lay(), 0, NO);
        changesNothing("lay() without a person, NO", x -> {
            live(x);
            x.wipe();
            write(x, "r1;o1;f1,1;");
        }, (x, n) -> x.lay(), 0, NO);
        changesNothing("lay() with a fault, NO", x -> {
            live(x);
            write(x, "p");
        }, (x, n) -> x.lay(), 0, NO);
        changesNothing("fault() of a fault", x -> {
            live(x);
            write(x, "w4,6,0;");
        }, (x, n) -> x.fault(), 0, 50);
        changesNothing("walk(0, 6, 0), FULL", x -> {
            live(x);
            for (int n = 0; n < 6; n++) {
                x.walk(2, 6, n);
            }
        }, (x, n) -> x.walk(0, 6, 0), 0, FULL);
        changesNothing("seen(6, 0), FULL", x -> {
            live(x);
            for (int n = 0; n < 4; n++) {
                x.seen(8, 49);
            }
        }, (x, n) -> x.seen(6, 0), 0, FULL);
        changesNothing("keep(), FULL", x -> {
            live(x);
            x.keep();
            x.alter(2, 20);
        }, (x, n) -> x.keep(), 0, FULL);
        changesNothing("undo(), NO", x -> {
            write(x, PERSONS);
            x.seen(8, 49);
        }, (x, n) -> x.undo(), 0, NO);
        changesNothing("undo() behind back(), NO", x -> {
            live(x);
            x.back();
        }, (x, n) -> x.undo(), 0, NO);
        changesNothing("back(), NO", x -> {
            write(x, PERSONS);
            x.alter(0, 3);
            x.walk(0, 6, 1);
        }, (x, n) -> x.back(), 0, NO);
    }

    /** A call that only asks changes nothing either. */
    private static void asks() {
        Call[] calls = {(x, n) -> x.fault(), (x, n) -> x.broken(), (x, n) -> x.whose(), (x, n) -> x.first(n), (x, n) -> x.look(n),
            (x, n) -> x.day(n, 0), (x, n) -> x.cut(n), (x, n) -> x.fittings(n), (x, n) -> x.taken(n, 6, 18), (x, n) -> x.wear(n, 18),
            (x, n) -> x.watchers(6, n), (x, n) -> x.light(6 + n), (x, n) -> x.clouds(n, 6, 18, 3, 0), (x, n) -> x.poplar(9, 1 + n),
            (x, n) -> x.covers(n, 6), (x, n) -> x.stands(n, 6), (x, n) -> x.shadow(n, 6, 1), (x, n) -> x.where(n, 6),
            (x, n) -> x.person(n, 2), (x, n) -> x.count(n)};
        for (int c = 0; c < calls.length; c++) {
            for (int number = 0; number <= 1; number++) {
                ShadowTailor known = new ShadowTailor();
                live(known);
                changesNothing("ask " + c + " of " + number, ShadowTailorRefused::live, calls[c], number, calls[c].on(known, number));
            }
        }
    }
}
