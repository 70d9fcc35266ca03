/** Promises 10 to 18, sentence by sentence: hung and let. */
public final class LetEdgeTest extends Asked {
    public static void main(String[] args) {
        Edges.run(LetEdgeTest.class);
    }

    // ---- 10: hang

    /** Doors 0 (l) and 1 (r); hinges 0, 1, 2 (l), 3 (r), 4 (b). */
    private static void twoDoors() {
        fresh("d01l5;d02r5;hl3*2;hl3;hl3;hr3*7;hb3*4");
        x.shut();
    }

    @Says(promise = 10, text = "A HINGE in THE FORGE is hung on a DOOR: how many are on it then.")
    static void p10_howMany() {
        twoDoors();
        due("the first", x.hang(2, 0), 1);
        due("on it", x.door(0, 4), 4);
        due("the second", x.hang(0, 0), 2);
        due("on it", x.door(0, 4), 5);
        due("elsewhere", x.hang(4, 1), 1);
        due("where", x.hinge(4, 5), 1);
        due("in the forge", x.count(4), 2 | 8);
        x.take(2);
        due("another for it", x.hang(1, 0), 2);
        due("on it", x.door(0, 4), 3);
    }

    @Says(promise = 10, text = "-2: it is on a DOOR;")
    static void p10_onADoor() {
        twoDoors();
        x.hang(0, 0);
        stays("on the same", -2, () -> x.hang(0, 0));
        x.hang(4, 0);
        stays("on another", -2, () -> x.hang(4, 1));
    }

    @Says(promise = 10, text = "-3: it does not FIT;")
    static void p10_doesNotFit() {
        twoDoors();
        stays("l on r", -3, () -> x.hang(0, 1));
        stays("r on l", -3, () -> x.hang(3, 0));
        x.bend(0);
        due("bent", x.hang(0, 1), 1);
    }

    @Says(promise = 10, text = "-4: two are there")
    static void p10_twoAreThere() {
        twoDoors();
        x.hang(0, 0);
        x.hang(1, 0);
        stays("a third", -4, () -> x.hang(2, 0));
        stays("a third", -4, () -> x.hang(4, 0));
    }

    @Says(promise = 10, text = "(asked in this order);")
    static void p10_order() {
        twoDoors();
        x.hang(0, 0);
        x.hang(1, 0);
        stays("on a door, and two are there", -2, () -> x.hang(0, 0));
        stays("on a door, and does not fit", -2, () -> x.hang(0, 1));
        stays("does not fit, and two are there", -3, () -> x.hang(3, 0));
        add("hr1;hr1");
        order("h3>1;h5>1", 2);
        stays("all three", -2, () -> x.hang(0, 1));
        stays("does not fit, and two are there", -3, () -> x.hang(2, 1));
    }

    @Says(promise = 10, text = "NONE: none such.")
    static void p10_noneSuch() {
        stays("no house", -1, () -> x.hang(0, 0));
        twoDoors();
        x.hang(0, 0);
        for (int far : FAR) {
            stays("no hinge", -1, () -> x.hang(far, 0));
            stays("no door", -1, () -> x.hang(1, far));
            stays("no door for one that hangs", -1, () -> x.hang(0, far));
        }
        stays("hinge 5", -1, () -> x.hang(5, 0));
        stays("door 2", -1, () -> x.hang(1, 2));
        stays("both", -1, () -> x.hang(5, 2));
    }

    // ---- 11: take

    @Says(promise = 11, text = "A HINGE on a DOOR goes back to THE FORGE: the DOOR.")
    static void p11_theDoor() {
        twoDoors();
        order("h0>0;h1>0;h4>1;n", 4);
        due("door 1", x.take(4), 1);
        due("door 0", x.take(0), 0);
        due("the other stays", x.door(0, 4), 2);
        due("in the forge", x.hinge(0, 5), -1);
        due("its rust stays", x.hinge(0, 3), 1);
        due("it can be hung again", x.hang(0, 0), 2);
    }

    @Says(promise = 11, text = "-2: it is in THE FORGE;")
    static void p11_inTheForge() {
        twoDoors();
        stays("at first", -2, () -> x.take(0));
        x.hang(0, 0);
        x.take(0);
        stays("twice", -2, () -> x.take(0));
    }

    @Says(promise = 11, text = "NONE: none such.")
    static void p11_noneSuch() {
        stays("no house", -1, () -> x.take(0));
        twoDoors();
        for (int far : FAR) {
            stays("no hinge", -1, () -> x.take(far));
        }
        stays("hinge 5", -1, () -> x.take(5));
    }

    // ---- 12: oil

    @Says(promise = 12, text = "A HINGE gets OIL for n days (1 .. 9; if it has more, it keeps that): what it has then.")
    static void p12_keepsMore() {
        twoDoors();
        due("one", x.oil(0, 1), 1);
        due("nine", x.oil(1, 9), 9);
        due("more", x.oil(0, 5), 5);
        due("as much", x.oil(0, 5), 5);
        due("less", x.oil(0, 4), 5);
        due("the least", x.oil(0, 1), 5);
        due("it has", x.hinge(0, 4), 5);
        x.hang(0, 0);
        x.days(3);
        due("on a door, 2 left", x.oil(0, 3), 3);
        due("it has", x.hinge(0, 4), 3);
    }

    @Says(promise = 12, text = "NONE: others.")
    static void p12_others() {
        stays("no house", -1, () -> x.oil(0, 1));
        twoDoors();
        x.oil(0, 4);
        for (int far : FAR) {
            stays("no hinge", -1, () -> x.oil(far, 5));
            stays("so many days", -1, () -> x.oil(0, far));
        }
        stays("hinge 5", -1, () -> x.oil(5, 5));
        stays("0 days", -1, () -> x.oil(0, 0));
        stays("10 days", -1, () -> x.oil(0, 10));
    }

    // ---- 13: bend

    @Says(promise = 13, text = "A HINGE is bent so that it FITS both: true.")
    static void p13_fitsBoth() {
        twoDoors();
        due("l", x.bend(0), true);
        due("its hand", x.hinge(0, 0), 2);
        due("it fits r", x.hang(0, 1), 1);
        x.take(0);
        due("it fits l", x.hang(0, 0), 1);
        due("r", x.bend(3), true);
        due("it fits l", x.hang(3, 0), 2);
        twoDoors();
        x.hang(1, 0);
        due("on a door", x.bend(1), true);
        due("it hangs there", x.hinge(1, 5), 0);
        due("its hand", x.hinge(1, 0), 2);
    }

    @Says(promise = 13, text = "Refused: none such, it does already.")
    static void p13_already() {
        refused("no house", () -> x.bend(0));
        twoDoors();
        refused("b", () -> x.bend(4));
        x.bend(0);
        refused("twice", () -> x.bend(0));
        for (int far : FAR) {
            refused("no hinge", () -> x.bend(far));
        }
        refused("hinge 5", () -> x.bend(5));
    }

    // ---- 14, 15: day, days

    /** Door 0 of 5 with 3 and 3, door 1 of 9 with 9 and 8, door 2 of 5 with one of 9; rents 4, 2, 9, 0 and 1. */
    private static void threeDoors() {
        fresh("d01l5;d02r9;d03l5;hl3*4;hl3*2;hr9*9;hr8*0;hl9");
        order("h0>0;h1>0;h2>1;h3>1;h4>2", 5);
    }

    @Says(promise = 14, text = "A DAY: the rent that was paid;")
    static void p14_rent() {
        due("no house", x.day(), 0);
        due("a day", x.count(2), 1);
        threeDoors();
        due("rent", x.day(), 16);
        x.take(2);
        due("rent", x.day(), 7);
        due("till", x.count(3), 23);
        due("days", x.count(2), 2);
    }

    @Says(promise = 14, text = "the ROW: DOORS (bits) that were SHUT ahead of it and are not now.")
    static void p14_row() {
        x.day();
        row(0);
        threeDoors();
        x.day();
        row(0);
        // 3 and 3 hold 4 behind two days.
        x.day();
        row(1);
        x.day();
        row(0);
        fresh("d01l2;d12l3;d23l9;hl1;hl1;hl2;hl1;hl9");
        order("h0>0;h1>0;h2>1;h3>1;h4>2;n", 6);
        x.day();
        row(1 | 2);
    }

    @Says(promise = 15, text = "n DAYS (0 .. 60): the rent that was paid;")
    static void p15_rent() {
        threeDoors();
        due("none", x.days(0), 0);
        due("days", x.count(2), 0);
        due("one", x.days(1), 16);
        due("sixty", x.days(60), 960);
        due("days", x.count(2), 61);
        due("till", x.count(3), 976);
        due("rust", x.hinge(0, 3), 9);
        threeDoors();
        x.oil(0, 4);
        x.days(6);
        due("oil", x.hinge(0, 4), 0);
        due("rust behind oil", x.hinge(0, 3), 2);
    }

    @Says(promise = 15, text = "the ROW: likewise.")
    static void p15_row() {
        threeDoors();
        x.days(0);
        row(0);
        x.days(1);
        row(0);
        x.days(1);
        row(1);
        x.days(60);
        row(0);
        threeDoors();
        x.take(3);
        add("hr1");
        x.hang(5, 1);
        due("9 and 1 hold 9", x.door(1, 5), 2);
        x.days(60);
        row(3);
    }

    @Says(promise = 15, text = "NONE: another n.")
    static void p15_another() {
        threeDoors();
        x.shut();
        stays("61", -1, () -> x.days(61));
        for (int far : FAR) {
            stays("days(" + far + ")", -1, () -> x.days(far));
        }
    }

    // ---- 16: gale

    /** The draws of a seed, as the document tells them, by long numbers. */
    private static int[] draws(int seed, int n, int many) {
        int[] drawn = new int[many];
        long r = seed;
        for (int k = 0; k < many; k++) {
            r = Math.floorMod(r * 1103515245L + 12345L, 1L << 32);
            drawn[k] = (int) (r / 65536 % n);
        }
        return drawn;
    }

    @Says(promise = 16, text = {"A gale of g (1 .. 19): on each DOOR that is not SHUT, by numbers, for each HINGE on it, by numbers, a DRAW of g;",
        "which fell (bits).", "A DRAW of n: R = R times 1103515245 + 12345 (as ints; R is seed at first), (R without sign, by 65536) % n."})
    static void p16_draws() {
        int[] seeds = {0, 1, -1, 12345, 987654321, -77, Integer.MIN_VALUE, Integer.MAX_VALUE};
        for (int g = 1; g <= 19; g++) {
            for (int seed : seeds) {
                fresh("d01l9;d02l9;d03l9;hl1;hl1;hl1;hl1;hl1");
                // Door 0 has 1 and 4, door 2 has 0 and 3, door 1 has 2: so they draw 1, 4, 2, 0, 3.
                order("h4>0;h3>2;h2>1;h1>0;h0>2", 5);
                int[] drawn = draws(seed, g, 5);
                int[] turn = {1, 4, 2, 0, 3};
                int fallen = 0;
                for (int k = 0; k < 5; k++) {
                    fallen |= drawn[k] > 1 ? 1 << turn[k] : 0;
                }
                due("gale(" + seed + ", " + g + ")", x.gale(seed, g), fallen);
                due("in the forge", x.count(4), fallen);
            }
        }
    }

    @Says(promise = 16, text = "if that is above its HOLD, it falls and is in THE FORGE, with RUST 2 more (9 at most):")
    static void p16_falls() {
        // The first draw of seed 1 is 16838.
        due("4 of 19", draws(1, 19, 1)[0], 4);
        for (int strength = 1; strength <= 9; strength++) {
            fresh("d01l9;hl" + strength);
            x.hang(0, 0);
            boolean falls = strength < 4;
            due("a hold of " + strength, x.gale(1, 19), falls ? 1 : 0);
            due("where", x.hinge(0, 5), falls ? -1 : 0);
            due("on the door", x.door(0, 4), falls ? 0 : 1);
            due("rust", x.hinge(0, 3), falls ? 2 : 0);
        }
        for (int days = 6; days <= 9; days++) {
            fresh("d01l9;hl1");
            x.hang(0, 0);
            x.days(days);
            due("a hold of 0", x.gale(1, 19), 1);
            due("9 at most", x.hinge(0, 3), Math.min(9, days + 2));
        }
        fresh("d01l9;hl5");
        x.hang(0, 0);
        x.days(4);
        due("a hold of 3 by rust", x.gale(1, 19), 1);
        due("rust", x.hinge(0, 3), 6);
    }

    @Says(promise = 16, text = "(DOORS that were not SHUT ahead of it; no others.)")
    static void p16_aheadOfIt() {
        fresh("d01l2;d02l9;hl1;hl1;hl1");
        order("h0>0;h1>0;h2>1;n", 4);
        due("door 0 is shut", x.door(0, 5), 2);
        due("the first draw is for door 1", x.gale(1, 19), 4);
        due("door 0 has them", x.door(0, 4), 3);
        due("door 0 has no rust of it", x.hinge(0, 3), 1);
        fresh("d01l9;hl3;hl3");
        order("h0>0;h1>0", 2);
        // Seed 1 draws 4, then 13 of 19: when the first has fallen, the second has its draw too.
        due("the second draw", draws(1, 19, 2)[1], 38526 % 19);
        due("both", x.gale(1, 19), 3);
    }

    @Says(promise = 16, text = "Refused: another g.")
    static void p16_another() {
        fresh("d01l9;hl1");
        x.hang(0, 0);
        x.shut();
        stays("0", -1, () -> x.gale(1, 0));
        stays("20", -1, () -> x.gale(1, 20));
        for (int far : FAR) {
            stays("gale of " + far, -1, () -> x.gale(1, far));
        }
        due("1", x.gale(1, 1), 0);
        due("19", x.gale(1, 19), 1);
    }

    // ---- 17: order

    @Says(promise = 17, text = {"THE TEXT tells AN ORDER (an empty one: nothing), ACTS with ; between:",
        "h, a number (1 or 2 digits), >, a digit: a HINGE to a DOOR: hang(); t and a number: take(); o, a number, *, a digit: oil();"})
    static void p17_acts() {
        twoDoors();
        order("", 0);
        order("n", 1);
        order("h0>0", 1);
        order("h04>1;h03>1", 2);
        order("", 0);
        row(0, 0);
        order("n3", 1);
        String before = unrowed();
        order("", 0);
        row(0, 0);
        x.shut();
        same("an empty order behind another", before);
        due("on door 0", x.door(0, 4), 1);
        due("on door 1", x.door(1, 4), 8 | 16);
        order("t0;t04", 2);
        due("in the forge", x.count(4), 1 | 2 | 4 | 16);
        order("o0*9;o01*1", 2);
        due("oil", x.hinge(0, 4), 9);
        due("oil", x.hinge(1, 4), 1);
        add("hl1;hl1;hl1;hl1;hl1;hl1;hl1");
        order("h11>0;o11*3;h10>0;t10", 4);
        due("hinge 11", x.hinge(11, 5), 0);
        due("oil", x.hinge(11, 4), 3);
        due("hinge 10", x.hinge(10, 5), -1);
    }

    @Says(promise = 17, text = "n and perhaps a digit 1 .. 9 (so many DAYS, else one):")
    static void p17_days() {
        twoDoors();
        order("h0>0;n", 2);
        row(0, 2);
        due("one", x.count(2), 1);
        for (int n = 1; n <= 9; n++) {
            int before = x.count(2);
            order("n" + n, 1);
            row(0, 2 * n);
            due("n" + n, x.count(2), before + n);
        }
        order("n0", -2);
        order("n10", -3);
        order("n;n2;n", 3);
        row(0, 8);
    }

    @Says(promise = 17, text = {"they are done one by one, till one is refused: how many were done;",
        "the ROW: 1 if one was refused, else 0, rent that was paid."})
    static void p17_tillOneIsRefused() {
        twoDoors();
        order("", 0);
        row(0, 0);
        order("h0>0;n3;h0>0;n5;t0", 2);
        row(1, 6);
        due("days", x.count(2), 3);
        due("it hangs", x.hinge(0, 5), 0);
        order("t0;n;h0>0;n;t0", 5);
        row(0, 2);
        String[] wrongOnes = {"h0>1", "h5>0", "h99>0", "h0>2", "h0>9", "t0", "t5", "t99", "o0*0", "o5*1", "o99*9"};
        for (String act : wrongOnes) {
            String before = unrowed();
            order(act, 0);
            row(1, 0);
            order("n;" + act + ";n", 1);
            row(1, 0);
            x.undo();
            x.shut();
            same("an order with " + act, before);
        }
        order("h0>0;h1>0;h2>0;n", 2);
        row(1, 0);
    }

    @Says(promise = 17, text = "-1 - p: the sign at p can't stand there")
    static void p17_aSignThatCant() {
        twoDoors();
        x.shut();
        digitsOfOrders();
        String[] texts = {"x", ";", "H0>0", "0", "hx", "h>0", "h0*0", "h00:", "h0>x", "h0>00", "h000>0", "t;", "t>", "t000", "t0>0",
            "o*1", "o0>1", "o0*x", "o0*11", "o000*1", "n0", "nx", "n11", "n1;;", "n,n", "n1 "};
        int[] answers = {-1, -1, -1, -1, -2, -2, -3, -4, -4, -5, -4, -2, -2, -4, -3,
            -2, -3, -4, -5, -4, -2, -2, -3, -4, -2, -3};
        for (int k = 0; k < texts.length; k++) {
            String t = texts[k];
            text(t);
            stays("order of " + t, answers[k], () -> x.order());
            text("n;" + t);
            stays("order of n;" + t, answers[k] - 2, () -> x.order());
        }
    }

    /** The signs ahead of 0 and behind 9 are no digits, and 0 is none of 1 .. 9. */
    private static void digitsOfOrders() {
        for (String no : new String[] {"/", ":"}) {
            order("h" + no, -2);
            order("h1" + no, -3);
            order("h11" + no, -4);
            order("h1>" + no, -4);
            order("t" + no, -2);
            order("t1" + no, -3);
            order("o1*" + no, -4);
            order("n" + no, -2);
            order("n1" + no, -3);
        }
        order("n0", -2);
    }

    @Says(promise = 17, text = "(its end, if it ends too early;")
    static void p17_endsTooEarly() {
        twoDoors();
        x.shut();
        String[] texts = {"h", "h0", "h00", "h0>", "h00>", "t", "o", "o0", "o00", "o0*", "o00*", "n;", "n9;", "t0;", "h0>0;", "o0*1;"};
        for (String t : texts) {
            text(t);
            stays("order of " + t, -1 - t.length(), () -> x.order());
            text("n;" + t);
            stays("order of n;" + t, -3 - t.length(), () -> x.order());
        }
    }

    @Says(promise = 17, text = "60, if it has more and the first 60 could go on or end);")
    static void p17_moreThan60() {
        twoDoors();
        String thirty = "n;".repeat(29) + "n9";
        due("signs", thirty.length(), 60);
        order(thirty, 30);
        row(0, 0);
        due("days", x.count(2), 38);
        x.shut();
        String[] long60 = {thirty + ";", thirty + ";n", thirty + "9", thirty + "?", "n;".repeat(30), "n;".repeat(30) + "n",
            "n;".repeat(30) + "?", "n;".repeat(29) + "h0>0", "n;".repeat(29) + "t00", "n;".repeat(29) + "t0?",
            "n;".repeat(28) + "h00>1", "n;".repeat(28) + "h00>?", "n;".repeat(28) + "o00*"};
        for (String t : long60) {
            text(t);
            stays("order of " + t, -61, () -> x.order());
        }
        text("n;".repeat(29) + "??");
        stays("at 58", -59, () -> x.order());
        text("n;".repeat(29) + "n?;n");
        stays("at 59", -60, () -> x.order());
        text("n;".repeat(29) + "n0;n");
        stays("at 59", -60, () -> x.order());
        text("?" + "n;".repeat(30));
        stays("at 0", -1, () -> x.order());
    }

    @Says(promise = 17, text = "nothing is done then.")
    static void p17_nothingIsDone() {
        twoDoors();
        x.shut();
        text("h0>0;n3;o1*4;x");
        stays("x behind what could be done", -14, () -> x.order());
        text("h0>0;n3;o1*4;");
        stays("an end behind what could be done", -14, () -> x.order());
        due("nothing can be undone", x.undo(), -1);
    }

    // ---- 18: undo

    @Says(promise = 18, text = {"The latest hang(), take(), oil(), bend(), day(), days(), gale(), order()", "is undone",
        "(where HINGES are, HANDS, RUST, OIL, THE TILL, DAYS are as ahead of it): how many are left that can be."})
    static void p18_eachOfThem() {
        undone("hang", () -> x.hang(1, 0));
        undone("take", () -> x.take(0));
        undone("oil", () -> x.oil(0, 9));
        undone("oil of less", () -> x.oil(3, 1));
        undone("bend", () -> x.bend(0));
        undone("day", () -> x.day());
        undone("days", () -> x.days(7));
        undone("gale", () -> x.gale(1, 19));
        undone("a gale in which nothing falls", () -> x.gale(1, 1));
        undone("order", () -> order("t0;t3;h4>0;o4*5;n9", 5));
        twoDoors();
        order("h0>0", 1);
        x.hang(1, 0);
        x.take(0);
        x.day();
        due("one by one", x.undo(), 3);
        due("one by one", x.undo(), 2);
        due("one by one", x.undo(), 1);
        due("one by one", x.undo(), 0);
        due("at first", x.count(4), 31);
    }

    /** An act in a town where hinge 0 has rust 3, and 3 has rust 2 and oil 5, when a bent one hangs beside it. */
    private static void undone(String call, Runnable act) {
        twoDoors();
        x.bend(2);
        order("h0>0;h3>1;h2>1;n2;o3*6;n", 6);
        String before = unrowed();
        act.run();
        due(call + " can be undone", x.count(6), 3);
        due("undo of " + call, x.undo(), 2);
        x.shut();
        same("undo of " + call, before);
    }

    @Says(promise = 18, text = "(of 15 that are kept, the latest ones;")
    static void p18_fifteen() {
        twoDoors();
        for (int k = 1; k <= 40; k++) {
            x.day();
            due("can be undone", x.count(6), Math.min(15, k));
        }
        for (int k = 14; k >= 0; k--) {
            due("left", x.undo(), k);
            due("days", x.count(2), 25 + k);
        }
        due("none", x.undo(), -1);
        due("days", x.count(2), 25);
        for (int k = 1; k <= 15; k++) {
            x.day();
        }
        due("fifteen again", x.count(6), 15);
        due("left", x.undo(), 14);
        x.day();
        x.day();
        due("fifteen again", x.count(6), 15);
        for (int k = 14; k >= 0; k--) {
            due("left", x.undo(), k);
        }
        due("days: the first of sixteen is not undone", x.count(2), 26);
    }

    @Says(promise = 18, text = {"(of 15 that are kept, the latest ones;", "such as were not refused;"})
    static void p18_refusedBehindFifteen() {
        twoDoors();
        x.hang(0, 0);
        for (int k = 1; k <= 14; k++) {
            x.day();
        }
        due("fifteen", x.count(6), 15);
        x.hang(0, 1);
        x.take(1);
        x.oil(0, 10);
        x.bend(4);
        x.days(0);
        x.gale(1, 20);
        order("t1;n", 0);
        order("", 0);
        due("fifteen", x.count(6), 15);
        for (int k = 14; k >= 0; k--) {
            due("left", x.undo(), k);
            due("days", x.count(2), Math.max(0, k - 1));
            due("where", x.hinge(0, 5), k > 0 ? 0 : -1);
        }
    }

    @Says(promise = 18, text = "such as were not refused;")
    static void p18_notRefused() {
        twoDoors();
        x.hang(0, 0);
        x.hang(0, 0);
        x.hang(1, 1);
        x.hang(5, 0);
        x.take(1);
        x.take(5);
        x.oil(0, 0);
        x.oil(0, 10);
        x.oil(5, 1);
        x.bend(4);
        x.bend(5);
        x.days(-1);
        x.days(61);
        x.gale(1, 0);
        x.gale(1, 20);
        order("h0", -3);
        due("the first hang alone", x.count(6), 1);
        due("undone", x.undo(), 0);
        due("in the forge", x.count(4), 31);
    }

    @Says(promise = 18, text = "days() of 1 and more, order() of which one ACT was done, as one)")
    static void p18_asOne() {
        twoDoors();
        x.days(0);
        due("days(0)", x.count(6), 0);
        order("", 0);
        due("an empty order", x.count(6), 0);
        order("t0;n", 0);
        due("an order of which none was done", x.count(6), 0);
        x.days(1);
        due("days(1)", x.count(6), 1);
        x.days(60);
        due("days(60)", x.count(6), 2);
        order("n;t0", 1);
        due("an order of which one was done", x.count(6), 3);
        order("h0>0;n;t0;h0>0;n2;t0", 6);
        due("an order of six", x.count(6), 4);
        due("undone as one", x.undo(), 3);
        due("days", x.count(2), 62);
        due("undone as one", x.undo(), 2);
        due("days", x.count(2), 61);
        due("undone as one", x.undo(), 1);
        due("days", x.count(2), 1);
        due("undone as one", x.undo(), 0);
        due("days", x.count(2), 0);
    }

    @Says(promise = 18, text = "Refused: none.")
    static void p18_none() {
        stays("a new object", -1, () -> x.undo());
        twoDoors();
        stays("a house", -1, () -> x.undo());
        x.hang(0, 0);
        due("one", x.undo(), 0);
        stays("none", -1, () -> x.undo());
        x.secret(1, 4);
        x.heard(4);
        rule("s", 0);
        x.keep(0);
        stays("none of others", -1, () -> x.undo());
    }

    @Says(promise = 18, text = "(house() and again() forget them, if they are not refused; an empty house() does not.)")
    static void p18_forgotten() {
        twoDoors();
        x.keep(0);
        x.hang(0, 0);
        x.day();
        stays("an empty house", 0, () -> x.house());
        text("hx");
        stays("a house that can't be", -2, () -> x.house());
        refused("again(1)", () -> x.again(1));
        refused("again(3)", () -> x.again(3));
        due("two", x.count(6), 2);
        due("again(0)", x.again(0), true);
        due("forgotten", x.count(6), 0);
        stays("undo", -1, () -> x.undo());
        x.hang(0, 0);
        house("hl1", 1);
        due("forgotten", x.count(6), 0);
        stays("undo", -1, () -> x.undo());
        x.day();
        refused("a hinge came since", () -> x.again(0));
        due("not forgotten", x.undo(), 0);
        due("it hangs", x.hinge(0, 5), 0);
        x.day();
        house("d34l1", 1);
        due("a door too", x.undo(), -1);
    }
}
