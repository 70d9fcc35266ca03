import java.util.NoSuchElementException;
import java.util.function.BooleanSupplier;
import java.util.function.IntSupplier;

/** How tests ask the program: one object at a time, texts in and rows out, and what was not as due is told and counted. */
abstract class Asked {
    /** Numbers that are none of anything: just below the least, and as far away as can be. */
    static final int[] FAR = {-1, Integer.MIN_VALUE, Integer.MAX_VALUE};
    static Counted x = new Counted();
    static String about = "";
    static int asked = 0;
    static int wrong = 0;

    static void tellWrong(String what) {
        wrong++;
        System.out.println(about + ": " + what);
    }

    static void due(String call, long got, long want) {
        asked++;
        if (got != want) {
            tellWrong(call + " answered " + got + ", due is " + want);
        }
    }

    static void due(String call, boolean got, boolean want) {
        due(call, got ? 1 : 0, want ? 1 : 0);
    }

    static void row(long... numbers) {
        int many = x.count(8);
        due("numbers of the row", many, numbers.length);
        for (int i = 0; i < numbers.length && i < many; i++) {
            due("row(" + i + ")", x.row(i), numbers[i]);
        }
        due("row behind its end throws", rowThrows(numbers.length), true);
    }

    static boolean rowThrows(int i) {
        return throwsNoSuch(() -> x.row(i));
    }

    static boolean doorThrows(int d, int what) {
        return throwsNoSuch(() -> x.door(d, what));
    }

    static boolean hingeThrows(int h, int what) {
        return throwsNoSuch(() -> x.hinge(h, what));
    }

    private static boolean throwsNoSuch(Runnable call) {
        try {
            call.run();
            return false;
        } catch (NoSuchElementException e) {
            return true;
        }
    }

    // ---- objects and texts

    static void fresh() {
        x = new Counted();
    }

    /** A new object with this house. */
    static void fresh(String house) {
        fresh();
        add(house);
    }

    static void add(String house) {
        text(house);
        if (x.house() < 1) {
            tellWrong("the house " + house + " does not stand");
        }
    }

    static void text(String text) {
        x.end(0);
        for (int v : packed(text)) {
            x.sign(v);
        }
        x.end(text.length());
    }

    /** A text by fours, as sign() takes it, with zeros behind its end. */
    static int[] packed(String text) {
        int[] fours = new int[(text.length() + 3) / 4];
        for (int k = 0; k < 4 * fours.length; k++) {
            fours[k / 4] = fours[k / 4] << 8 | (k < text.length() ? text.charAt(k) : 0);
        }
        return fours;
    }

    static void house(String text, int want) {
        text(text);
        due("house of " + text, x.house(), want);
        due("signs left", x.count(9), 0);
    }

    static void rule(String text, int want) {
        text(text);
        due("rule of " + text, x.rule(), want);
        due("signs left", x.count(9), 0);
    }

    static void order(String text, int want) {
        text(text);
        due("order of " + text, x.order(), want);
        due("signs left", x.count(9), 0);
    }

    /** The creak of door 0 by a rule. */
    static void creak(String rule, int want) {
        rule(rule, 0);
        due("creak by " + rule, x.door(0, 6), want);
    }

    // ---- what stays as it is

    /** All that the face tells of the object, but for THE TEXT; a twin is asked, so that it costs no calls. */
    static String state() {
        Counted twin = x.twin();
        StringBuilder s = new StringBuilder("counts");
        for (int what = 0; what < 9; what++) {
            s.append(' ').append(twin.count(what));
        }
        s.append(", row");
        int numbers = twin.count(8);
        for (int i = 0; i < numbers; i++) {
            s.append(' ').append(twin.row(i));
        }
        s.append(", secrets");
        for (int room = 1; room <= 7; room++) {
            s.append(' ').append(twin.secret(room, 0));
        }
        int doors = twin.count(0);
        for (int d = 0; d < doors; d++) {
            s.append(", door");
            for (int what = 0; what <= 6; what++) {
                s.append(' ').append(twin.door(d, what));
            }
        }
        int hinges = twin.count(1);
        for (int h = 0; h < hinges; h++) {
            s.append(", hinge");
            for (int what = 0; what <= 6; what++) {
                s.append(' ').append(twin.hinge(h, what));
            }
        }
        return s.toString();
    }

    /** The state with a ROW that tells nothing else. */
    static String unrowed() {
        x.shut();
        return state();
    }

    /** A call that answers this, and behind which all is as it was, the ROW and what can be undone too. */
    static void stays(String call, int want, IntSupplier made) {
        String before = state();
        due(call, made.getAsInt(), want);
        same(call, before);
    }

    static void refused(String call, BooleanSupplier made) {
        String before = state();
        due(call, made.getAsBoolean(), false);
        same(call, before);
    }

    static void same(String call, String before) {
        asked++;
        String now = state();
        if (!now.equals(before)) {
            tellWrong(call + " changed\n  " + before + "\n  into\n  " + now);
        }
    }

    /** A call that answers this and changes nothing but the ROW. */
    static void tells(String call, int want, IntSupplier made) {
        x.shut();
        String before = state();
        due(call, made.getAsInt(), want);
        long[] told = new long[x.count(8)];
        for (int i = 0; i < told.length; i++) {
            told[i] = x.row(i);
        }
        x.shut();
        same(call, before);
        made.getAsInt();
        row(told);
    }

    static void tellResult(String test) {
        wrong += Counted.tooMany();
        System.out.println(test + ": " + asked + " answers, " + wrong + " wrong");
        if (wrong != 0) {
            System.exit(1);
        }
    }
}
