/** Promises 45 to 48, sentence by sentence: kept, counted, told. */
public final class KeptEdgeTest extends Asked {
    public static void main(String[] args) {
        Edges.run(KeptEdgeTest.class);
    }

    private static void town() {
        fresh("d01l5;d02r9;hl3*4;hl3*2;hr9*9");
        x.shut();
    }

    // ---- 45, 46: keep, again

    @Says(promise = 45, text = "Where HINGES are, HANDS, RUST, OIL, THE TILL, DAYS are kept under a number 0 .. 2: true.")
    static void p45_kept() {
        for (int i = 0; i <= 2; i++) {
            town();
            order("h0>0;h2>1;o0*4;n3", 4);
            x.bend(1);
            x.shut();
            String before = state();
            due("keep(" + i + ")", x.keep(i), true);
            same("keep", before);
            order("t0;h1>1;o1*9;n9;t2", 5);
            x.bend(0);
            due("again(" + i + ")", x.again(i), true);
            due("where they are", x.count(4), 2);
            due("where", x.hinge(0, 5) * 10 + x.hinge(2, 5), 1);
            due("hands", x.hinge(0, 0) * 100 + x.hinge(1, 0) * 10 + x.hinge(2, 0), 21);
            due("rust", x.hinge(0, 3) * 100 + x.hinge(1, 3) * 10 + x.hinge(2, 3), 3);
            due("oil", x.hinge(0, 4) * 100 + x.hinge(1, 4) * 10 + x.hinge(2, 4), 100);
            due("the till", x.count(3), 39);
            due("days", x.count(2), 3);
        }
    }

    @Says(promise = 45, text = "Where HINGES are, HANDS, RUST, OIL, THE TILL, DAYS are kept under a number 0 .. 2: true.")
    static void p45_numbers() {
        town();
        for (int i = 0; i <= 2; i++) {
            x.days(i + 1);
            due("keep(" + i + ")", x.keep(i), true);
        }
        int[] days = {1, 3, 6};
        for (int i = 2; i >= 0; i--) {
            due("again(" + i + ")", x.again(i), true);
            due("days", x.count(2), days[i]);
        }
        x.days(30);
        due("kept anew", x.keep(1), true);
        x.again(2);
        x.again(1);
        due("the latest", x.count(2), 31);
        x.again(0);
        due("the others as they were", x.count(2), 1);
    }

    @Says(promise = 45, text = "Refused: others.")
    static void p45_others() {
        town();
        refused("keep(3)", () -> x.keep(3));
        for (int far : FAR) {
            refused("keep(" + far + ")", () -> x.keep(far));
        }
        for (int i = 0; i <= 2; i++) {
            due("nothing was kept", x.again(i), false);
        }
    }

    @Says(promise = 46, text = "They are as they were kept under a number.")
    static void p46_again() {
        town();
        x.sheet(2, 7, 1, 1);
        x.keep(0);
        order("h0>0;h1>0;o2*3;n2", 4);
        x.secret(1, 9);
        x.heard(4);
        rule("s", 0);
        x.kept();
        due("again", x.again(0), true);
        due("in the forge", x.count(4), 7);
        due("on door 0", x.door(0, 4), 0);
        due("days, till", x.count(2) + x.count(3), 0);
        due("oil", x.hinge(2, 4), 0);
        due("rust", x.hinge(0, 3), 0);
        due("secrets stay", x.count(5), 36);
        due("what was heard stays", x.count(7), 1);
        due("the row stays", x.count(8), 1);
        x.hang(0, 0);
        due("the rule stays", x.door(0, 6), 3);
        due("again", x.again(0), true);
        due("as often as one likes", x.count(4), 7);
    }

    @Says(promise = 46, text = "Refused: nothing kept, DOORS or HINGES came since.")
    static void p46_refused() {
        town();
        x.keep(1);
        order("h0>0;n2", 2);
        x.shut();
        refused("nothing under 0", () -> x.again(0));
        refused("nothing under 2", () -> x.again(2));
        refused("no number", () -> x.again(3));
        for (int far : FAR) {
            refused("again(" + far + ")", () -> x.again(far));
        }
        house("", 0);
        house("dx", -2);
        x.keep(2);
        due("no house came", x.again(1), true);
        add("hl1");
        x.hang(0, 0);
        x.shut();
        refused("a hinge came since", () -> x.again(1));
        refused("a hinge came since", () -> x.again(2));
        due("keep(1)", x.keep(1), true);
        due("none came since", x.again(1), true);
        add("d34l1");
        x.shut();
        refused("a door came since", () -> x.again(1));
        x.keep(0);
        due("none came since", x.again(0), true);
        refused("nor the older ones", () -> x.again(2));
    }

    // ---- 47, 48: count, row

    @Says(promise = 47, text = {"What 0: DOORS, 1: HINGES, 2: DAYS, 3: THE TILL, 4: HINGES in THE FORGE (bits), 5: the sum of SECRETS of ROOMS 1 .. 7",
        "6: what can be undone, 7: what was heard, 8: numbers of the ROW, 9: signs of THE TEXT."})
    static void p47_counts() {
        for (int what = 0; what <= 9; what++) {
            due("at first", x.count(what), 0);
        }
        town();
        x.sheet(2, 7, 9, 0);
        x.hang(1, 0);
        x.days(60);
        x.heard(1);
        x.heard(1);
        x.heard(1);
        x.shut();
        x.sign(0);
        x.sign(0);
        x.end(5);
        int[] counts = {2, 3, 60, 120, 1 | 4, 63, 2, 3, 3, 5};
        for (int what = 0; what <= 9; what++) {
            due("count(" + what + ")", x.count(what), counts[what]);
        }
        x.thief(0);
        due("numbers of the row", x.count(8), 1);
        x.quiet(0);
        due("an empty row", x.count(8), 0);
    }

    @Says(promise = 47, text = "-100 for another what.")
    static void p47_another() {
        town();
        stays("10", -100, () -> x.count(10));
        stays("100", -100, () -> x.count(100));
        for (int far : FAR) {
            stays("count(" + far + ")", -100, () -> x.count(far));
        }
    }

    @Says(promise = 48, text = "Number i of the ROW.")
    static void p48_row() {
        town();
        x.hang(0, 0);
        x.shut();
        due("row(0)", x.row(0), 0);
        due("row(1)", x.row(1), 1);
        due("row(2)", x.row(2), 2);
        fresh("d01l9;d12l9;d23l9;d34l9;d45l9;d56l9");
        add("hl1;hl1;hl1;hl1;hl1;hl1;hl1;hl1;hl1;hl1;hl1;hl1");
        order("h0>0;h1>0;h2>1;h3>1;h4>2;h5>2", 6);
        order("h6>3;h7>3;h8>4;h9>4;h10>5;h11>5", 6);
        x.risk(19);
        due("more than an int", x.row(1), 2213314919066161L);
        fresh("d01l9");
        for (int k = 0; k < 12; k++) {
            x.heard(0);
        }
        x.ways();
        due("the longest row", x.count(8), 13);
        due("its last", x.row(12), 0);
    }

    @Says(promise = 48, text = "NoSuchElementException: none such.")
    static void p48_noneSuch() {
        due("row(0) of none", rowThrows(0), true);
        town();
        String before = state();
        due("row(3)", rowThrows(3), true);
        for (int far : FAR) {
            due("row(" + far + ")", rowThrows(far), true);
        }
        same("what threw", before);
        x.thief(0);
        due("a shorter row: row(1)", rowThrows(1), true);
        x.quiet(0);
        due("an empty row: row(0)", rowThrows(0), true);
    }
}
