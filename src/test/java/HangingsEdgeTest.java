/** Promises 28 to 34, sentence by sentence: hangings. Nothing changes by these calls but the ROW. */
public final class HangingsEdgeTest extends Asked {
    public static void main(String[] args) {
        Edges.run(HangingsEdgeTest.class);
    }

    // ---- 28: all

    @Says(promise = 28, text = "Whether DOORS told as bits can be SHUT all at once: how many HINGES are left then (two a DOOR);")
    static void p28_left() {
        tells("no doors, no hinges", 0, () -> x.all(0));
        row();
        fresh("d01l2;d02l2;d03l2;hl1;hl1;hl1;hl1;hl1;hl1;hr9");
        int[] left = {7, 5, 5, 3, 5, 3, 3, 1};
        for (int those = 0; those < 8; those++) {
            int mask = those;
            tells("all(" + mask + ")", left[mask], () -> x.all(mask));
        }
        order("h0>0;h1>1;h2>2;n", 4);
        tells("where they hang does not count", 1, () -> x.all(7));
        row(3, 12, 48);
        x.day();
        // Those that hang hold 0 now: only 3, 4 and 5 hold 1.
        tells("rust does", 5, () -> x.all(4));
        row(0, 0, 8 | 16);
        tells("rust does", -2, () -> x.all(3));
        fresh("d01l1;d12l1;d23l1;d34l1;d45l1;d56l1;d67l1;d07l1");
        add("hb1;hb1;hb1;hb1;hb1;hb1;hb1;hb1;hb1;hb1;hb1;hb1");
        tells("six of eight", 0, () -> x.all(252));
        row(0, 0, 3, 12, 48, 192, 768, 3072);
    }

    @Says(promise = 28, text = {"the ROW: a HANGING, of each DOOR from 0 on (0 on others):", "the least row by which they are."})
    static void p28_leastRow() {
        fresh("d01l5;d02l5;d03r3;hl4;hl3;hl2;hl1;hb4;hr1");
        tells("none", 6, () -> x.all(0));
        row(0, 0, 0);
        // The pairs of door 0 and 1 that hold 5: {0, 1}, {0, 2}, {1, 2}, {0, 3}, {4, any of 0 to 3}.
        tells("0", 4, () -> x.all(1));
        row(3, 0, 0);
        tells("1", 4, () -> x.all(2));
        row(0, 3, 0);
        tells("0 and 1: {0, 1} leaves {2, 4}", 2, () -> x.all(3));
        row(3, 4 | 16, 0);
        tells("2", 4, () -> x.all(4));
        row(0, 0, 16 | 32);
        tells("0 and 2", 2, () -> x.all(5));
        row(3, 0, 16 | 32);
        // Door 2 takes 4: {0, 1} leaves {2, 3}, which hold 3, so that the least of door 0 is {1, 2} with {0, 3} for door 1.
        tells("all three", 0, () -> x.all(7));
        row(2 | 4, 1 | 8, 16 | 32);
        x.bend(0);
        tells("sets are compared as numbers: {0, 4} is less than {4, 5}", 4, () -> x.all(4));
        row(0, 0, 1 | 16);
        fresh("d01l2;d02l2;hl1*9;hl1*8;hl1*0;hl1*7;hl1*0");
        tells("rent does not count", 1, () -> x.all(3));
        row(3, 12);
    }

    @Says(promise = 28, text = "-2: they can't;")
    static void p28_cant() {
        fresh("d01l9;d02r1;d03l9;hl4;hl4;hl9;hr1");
        x.shut();
        stays("too few that fit", -2, () -> x.all(2));
        stays("too few for two", -2, () -> x.all(5));
        stays("too few for all", -2, () -> x.all(7));
        due("one of them", x.all(1), 2);
        fresh("d01l9;hl4;hl4");
        x.shut();
        stays("too weak", -2, () -> x.all(1));
        fresh("d01l9;hl9");
        x.shut();
        stays("one alone", -2, () -> x.all(1));
        fresh("d01l9");
        x.shut();
        stays("no hinges", -2, () -> x.all(1));
    }

    @Says(promise = 28, text = "NONE: bits of none such.")
    static void p28_noneSuch() {
        stays("no doors", -1, () -> x.all(1));
        fresh("d01l1;d02l1;hl1;hl1");
        x.shut();
        stays("door 2", -1, () -> x.all(4));
        stays("door 2 with 0", -1, () -> x.all(5));
        stays("bit 31", -1, () -> x.all(1 << 31));
        stays("bit 31 with 0", -1, () -> x.all(1 << 31 | 1));
        for (int far : FAR) {
            stays("all(" + far + ")", -1, () -> x.all(far));
        }
        fresh("d01l1;d12l1;d23l1;d34l1;d45l1;d56l1;d67l1;d07l1");
        x.shut();
        stays("door 8", -1, () -> x.all(256));
        stays("eight doors", -2, () -> x.all(255));
    }

    // ---- 29, 30: most, best

    @Says(promise = 29, text = "The most DOORS that can be SHUT at once: how many; the ROW: they (of as many the least bits).")
    static void p29_most() {
        tells("no doors", 0, () -> x.most());
        row(0);
        fresh("d01l9;d02l2;d03l2;d04r2;hl1;hl1;hl1;hl1;hr1");
        tells("1 and 2", 2, () -> x.most());
        row(2 | 4);
        x.bend(0);
        tells("1 or 2 with 3 would be as many", 2, () -> x.most());
        row(2 | 4);
        add("hb9");
        tells("three: {0, 1, 2} would need six of five that fit", 3, () -> x.most());
        row(1 | 2 | 8);
        fresh("d01l9;hl4;hl4");
        tells("none can", 0, () -> x.most());
        row(0);
        fresh("d01l1;d12l1;d23l1;d34l1;d45l1;d56l1;d67l1;d07l1");
        add("hb1;hb1;hb1;hb1;hb1;hb1;hb1;hb1;hb1;hb1;hb1;hb1");
        tells("six of eight", 6, () -> x.most());
        row(63);
        fresh("d01l9;d02l9;d03l5;hl5;hl4;hl1");
        tells("0, 1 and 2 are as many: the least", 1, () -> x.most());
        row(1);
        order("h0>2;h1>2;n2", 3);
        tells("rust counts", 1, () -> x.most());
        row(4);
    }

    @Says(promise = 30, text = "The most SECRETS that can be KEPT by a HANGING: how many;")
    static void p30_most() {
        tells("no doors", 0, () -> x.best());
        row(0);
        fresh("d01l2;d02l2;d03l9;d34l2;hl1;hl1;hl1;hl1");
        x.sheet(2, 7, 1, 1);
        // Rooms 5 to 7 are safe by themselves; of two of 1, 2 and 4 the last two have the most.
        tells("2 and 4 beside 5 to 7", 18 + 6, () -> x.best());
        row(2 | 8, 0, 3, 0, 12);
        x.secret(1, 9);
        tells("1 and 4 beside 5 to 7", 18 + 13, () -> x.best());
        row(1 | 8, 3, 0, 0, 12);
        add("hl8;hl8");
        tells("all of them, 4 behind 3", 18 + 9 + 2 + 7, () -> x.best());
        row(1 | 2 | 4, 3, 12, 16 | 32, 0);
    }

    @Says(promise = 30, text = "the ROW: DOORS that are SHUT in it, of as good ones the fewest, then the least;")
    static void p30_fewest() {
        fresh("d01l1;d12l1;d02l1;d23l1;hl1;hl1;hl1;hl1");
        tells("nothing to keep: none", 0, () -> x.best());
        row(0, 0, 0, 0, 0);
        x.secret(3, 5);
        tells("3 by one door, or by 0 and 2", 5, () -> x.best());
        row(8, 0, 0, 0, 3);
        x.secret(2, 1);
        tells("2 and 3 by 0 and 2, or by 1 and 2: the least", 6, () -> x.best());
        row(1 | 4, 3, 0, 12, 0);
        fresh("d12l1;d01l1;hl1;hl1");
        x.secret(2, 4);
        tells("by 0 or by 1: the least", 4, () -> x.best());
        row(1, 3, 0);
        x.secret(1, 1);
        tells("by 1 more", 5, () -> x.best());
        row(2, 0, 3);
    }

    @Says(promise = 30, text = "a HANGING of these, as all() tells it.")
    static void p30_hanging() {
        fresh("d01l5;d02l5;d03r3;hl4;hl3;hl2;hl1;hb4;hr1");
        x.sheet(2, 3, 9, 0);
        tells("all three", 27, () -> x.best());
        row(7, 2 | 4, 1 | 8, 16 | 32);
        x.secret(1, 0);
        tells("1 and 2", 18, () -> x.best());
        row(6, 0, 3, 16 | 32);
        fresh("d01l9;hl4;hl4");
        x.secret(1, 5);
        tells("none", 0, () -> x.best());
        row(0, 0);
        fresh("d01l2;d02l2;hl1*9;hl1*8;hl1*0;hl1*7;hl1*0");
        x.secret(1, 5);
        x.secret(2, 5);
        tells("rent does not count", 10, () -> x.best());
        row(3, 3, 12);
    }

    // ---- 31: cheap

    /** Room 1 by door 0, room 2 by door 1, room 3 behind 2 by door 2; room 7 has 1. */
    private static void letDoors() {
        fresh("d01l4;d02r4;d23r2;hl4*9;hl2*3;hl2*2;hb2*1;hr3*0;hr1*0");
        x.secret(1, 5);
        x.secret(2, 3);
        x.secret(3, 2);
        x.secret(7, 1);
    }

    @Says(promise = 31, text = "The least rent of a DAY at which SECRETS of v (0 .. 63) and more are KEPT: how much;")
    static void p31_least() {
        tells("no doors", 0, () -> x.cheap(0));
        row(0);
        letDoors();
        int[] rents = {0, 0, 0, 0, 0, 0, 0, 3, 3, 3, 3, 3};
        for (int v = 0; v <= 11; v++) {
            int amount = v;
            tells("cheap(" + v + ")", rents[v], () -> x.cheap(amount));
        }
        order("h3>1", 1);
        tells("where they hang does not count", 3, () -> x.cheap(11));
        x.days(2);
        // Hinge 3 holds 1 now, too little for door 0 with another of 2: hinges 1 and 2 cost 5.
        tells("rust counts", 5, () -> x.cheap(11));
        fresh("d01l1;d02l1;hl1*9;hl1*9;hl1*9;hl1*9");
        x.secret(1, 9);
        x.secret(2, 9);
        tells("18 costs all", 36, () -> x.cheap(18));
        row(3, 3, 12);
    }

    @Says(promise = 31, text = "The least rent of a DAY at which SECRETS of v (0 .. 63) and more are KEPT: how much;")
    static void p31_leastComesLate() {
        rentedRooms("hl1*1;hl1*0;hr1*0;hr1*0");
        tells("1 by door 0, nothing by door 1", 0, () -> x.cheap(4));
        row(2, 0, 4 | 8);
        rentedRooms("hl1*2;hl1*1;hr1*1;hr1*1");
        tells("3 by door 0, 2 by door 1", 2, () -> x.cheap(4));
        row(2, 0, 4 | 8);
        rentedRooms("hr1*0;hl1*1;hl1*1;hr1*1");
        tells("2 by door 0, 1 by door 1 with the first hinge", 1, () -> x.cheap(4));
        row(2, 0, 1 | 8);
        fresh("d01l1;d02l1;hl1*2;hl1;hl1;hl1;hl1");
        x.secret(1, 4);
        x.secret(2, 4);
        tells("both without the first hinge, by 1 less than with it", 4, () -> x.cheap(8));
        row(3, 2 | 4, 8 | 16);
        fresh("d01l1;d02l1;d03l1;hl1*1;hl1*2;hl1*3;hl1*4;hl1*5;hl1*6");
        add("hr1*0;hr1*0;hr1*0;hr1*0;hr1*0;hr1*0");
        x.sheet(2, 3, 9, 0);
        tells("all six that fit, however they hang; those of 0 fit none", 21, () -> x.cheap(27));
        row(7, 3, 12, 48);
    }

    /** Rooms 1 and 2, behind a door for l and one for r. */
    private static void rentedRooms(String hinges) {
        fresh("d01l1;d02r1;" + hinges);
        x.secret(1, 4);
        x.secret(2, 4);
    }

    @Says(promise = 31, text = "the ROW: DOORS that are SHUT, a HANGING of these alone: of as cheap ones the least row.")
    static void p31_leastRow() {
        letDoors();
        tells("room 7 by itself", 0, () -> x.cheap(1));
        row(0, 0, 0, 0);
        tells("by 1, or by 2: the least", 0, () -> x.cheap(2));
        row(2, 0, 16 | 32, 0);
        tells("as much as 6", 0, () -> x.cheap(6));
        row(2, 0, 16 | 32, 0);
        tells("room 1 too", 3, () -> x.cheap(7));
        row(3, 4 | 8, 16 | 32, 0);
        fresh("d01l2;d02l2;hl1*2;hl1;hl1;hl1*2;hl1");
        x.secret(1, 4);
        x.secret(2, 4);
        tells("either door: the least", 2, () -> x.cheap(4));
        row(1, 2 | 4, 0);
        tells("both: {0, 1} comes ahead of {1, 2}", 5, () -> x.cheap(8));
        row(3, 1 | 2, 4 | 16);
        fresh("d01l2;d02l2;hl1*0;hl1*0;hl1*0;hl1*0");
        x.secret(2, 4);
        tells("no more than is needed, though it costs nothing", 0, () -> x.cheap(4));
        row(2, 0, 3);
    }

    @Says(promise = 31, text = "-2: by none;")
    static void p31_none() {
        x.shut();
        stays("1 of none", -2, () -> x.cheap(1));
        letDoors();
        x.shut();
        stays("12 of 11", -2, () -> x.cheap(12));
        stays("63", -2, () -> x.cheap(63));
        fresh("d01l9;hl4;hl4");
        x.secret(1, 1);
        x.shut();
        stays("too weak", -2, () -> x.cheap(1));
        due("nothing", x.cheap(0), 0);
    }

    @Says(promise = 31, text = "NONE: another v.")
    static void p31_another() {
        letDoors();
        x.shut();
        stays("64", -1, () -> x.cheap(64));
        for (int far : FAR) {
            stays("cheap(" + far + ")", -1, () -> x.cheap(far));
        }
    }

    // ---- 32: change

    /** Rooms 1 and 2, each behind a door of 9 for l. */
    private static void twoRooms(String hinges) {
        fresh("d01l9;d02l9;" + hinges);
        x.secret(1, 5);
        x.secret(2, 6);
    }

    @Says(promise = 32, text = {"The fewest HINGES that must hang elsewhere than now (taken down, hung, or both: one each)",
        "so that SECRETS of v (0 .. 63) and more are KEPT: how many;"})
    static void p32_fewest() {
        tells("no doors", 0, () -> x.change(0));
        row();
        twoRooms("hl5;hl4;hl1;hl1");
        tells("nothing to keep", 0, () -> x.change(0));
        row(0, 0);
        tells("two are hung", 2, () -> x.change(1));
        row(0, 3);
        order("h0>0", 1);
        tells("one is hung", 1, () -> x.change(5));
        row(3, 0);
        order("h2>0", 1);
        tells("one is taken down, one hung", 2, () -> x.change(5));
        row(3, 0);
        order("h1>1", 1);
        tells("one goes over", 1, () -> x.change(5));
        row(4, 3);
        tells("one goes over", 1, () -> x.change(6));
        row(4, 3);
        order("h3>1", 1);
        tells("one goes over, one is taken down", 2, () -> x.change(6));
        row(4, 3);
        order("t2;t3;t1;h1>0", 4);
        tells("as it is", 0, () -> x.change(5));
        row(3, 0);
        tells("both go over", 2, () -> x.change(6));
        row(0, 3);
        x.days(2);
        stays("rust counts", -2, () -> x.change(5));
        twoRooms("hl5;hl5;hl5;hl5;hl1;hl1");
        order("h4>0;h5>1", 2);
        tells("two are taken down, four hung", 6, () -> x.change(11));
        row(3, 12);
    }

    @Says(promise = 32, text = "the ROW: the HANGING of all DOORS: of as few the least row.")
    static void p32_leastRow() {
        twoRooms("hl5;hl5;hl5;hl5;hl1");
        order("h4>1", 1);
        tells("those that need not move stay", 2, () -> x.change(5));
        row(3, 16);
        tells("the second door: one is taken down, two are hung", 3, () -> x.change(6));
        row(0, 3);
        order("h2>0", 1);
        tells("with 0 or with 1 or with 3: the least", 1, () -> x.change(5));
        row(1 | 4, 16);
        order("t4;h3>1", 2);
        tells("6: door 1 with 0, with 1, with 2", 1, () -> x.change(6));
        // {3, 2} takes from door 0: 0 and 12 come ahead of 4 and 9.
        row(0, 4 | 8);
        tells("11: both with one more", 2, () -> x.change(11));
        row(1 | 4, 2 | 8);
        fresh("d01l9;d12l9;hl5;hl5;hl1");
        x.secret(2, 3);
        order("h2>0;h0>1", 2);
        tells("by door 1 alone", 1, () -> x.change(3));
        row(4, 3);
        order("t2", 1);
        tells("by door 0 with 0 and 1 there are two, by door 1 one", 1, () -> x.change(3));
        row(0, 3);
    }

    @Says(promise = 32, text = "-2: by none;")
    static void p32_none() {
        x.shut();
        stays("1 of none", -2, () -> x.change(1));
        twoRooms("hl5;hl4;hl4;hl4");
        x.shut();
        stays("both", -2, () -> x.change(7));
        stays("more than there is", -2, () -> x.change(12));
        stays("63", -2, () -> x.change(63));
    }

    @Says(promise = 32, text = "-3: there are more than 8 HINGES or 4 DOORS;")
    static void p32_more() {
        fresh("d01l1;d12l1;d23l1;d34l1;hl1;hl1;hl1;hl1;hl1;hl1;hl1;hl1");
        x.secret(4, 1);
        tells("8 hinges, 4 doors", 2, () -> x.change(1));
        row(0, 0, 0, 3);
        add("hl1");
        x.shut();
        stays("9 hinges", -3, () -> x.change(1));
        stays("nothing to keep", -3, () -> x.change(0));
        stays("what can't be kept", -3, () -> x.change(63));
        fresh("d01l1;d12l1;d23l1;d34l1;d45l1;hl1");
        x.shut();
        stays("5 doors", -3, () -> x.change(0));
        stays("5 doors", -3, () -> x.change(1));
    }

    @Says(promise = 32, text = "NONE: another v (first).")
    static void p32_another() {
        fresh("d01l1;d12l1;d23l1;d34l1;hl1");
        x.shut();
        stays("64", -1, () -> x.change(64));
        for (int far : FAR) {
            stays("change(" + far + ")", -1, () -> x.change(far));
        }
        add("d45l1;hl1;hl1;hl1;hl1;hl1;hl1;hl1;hl1");
        x.shut();
        stays("64 ahead of too many", -1, () -> x.change(64));
        stays("-1 ahead of too many", -1, () -> x.change(-1));
        stays("too many", -3, () -> x.change(63));
    }

    // ---- 33, 34: next, spare

    @Says(promise = 33, text = {"The HINGE in THE FORGE which, hung on a DOOR that it FITS and where there is room, makes the most SECRETS be KEPT;",
        "it; the ROW: the DOOR, SECRETS KEPT so."})
    static void p33_most() {
        fresh("d01l4;d02r4;d03r4;hl2;hl1;hr4;hr3;hb2;hl9");
        x.secret(1, 5);
        x.secret(2, 3);
        x.secret(3, 4);
        x.secret(7, 1);
        order("h0>0;h2>1", 2);
        tells("4 shuts door 0", 4, () -> x.next());
        row(0, 6);
        order("t0;h1>0", 2);
        tells("5 shuts door 0", 5, () -> x.next());
        row(0, 6);
        x.hang(5, 0);
        tells("3 and 4 shut door 1", 3, () -> x.next());
        row(1, 9);
        order("h3>2", 1);
        tells("4 shuts door 2", 4, () -> x.next());
        row(2, 10);
    }

    @Says(promise = 33, text = "of as good ones the first, then the first DOOR:")
    static void p33_first() {
        fresh("d01r9;d02l9;d03l9;hl1;hl1;hr1");
        tells("none makes more: the first on the first that it fits", 0, () -> x.next());
        row(1, 0);
        order("h0>1", 1);
        tells("the first in the forge", 1, () -> x.next());
        row(1, 0);
        order("h1>1", 1);
        tells("the last", 2, () -> x.next());
        row(0, 0);
        fresh("d01l2;d02l2;hl1;hl1;hl1;hl1");
        x.secret(1, 4);
        x.secret(2, 4);
        order("h2>1;h3>0", 2);
        tells("either hinge on either door", 0, () -> x.next());
        row(0, 4);
    }

    @Says(promise = 33, text = "-2: none can be hung.")
    static void p33_none() {
        x.shut();
        stays("no hinges", -2, () -> x.next());
        fresh("hl1");
        x.shut();
        stays("no doors", -2, () -> x.next());
        fresh("d01l9;hr1;hl1;hl1;hl1");
        order("h1>0;h2>0", 2);
        x.shut();
        stays("one does not fit, one has no room", -2, () -> x.next());
        x.take(2);
        due("room", x.next(), 2);
        fresh("d01l9;hl1");
        x.hang(0, 0);
        x.shut();
        stays("none in the forge", -2, () -> x.next());
    }

    @Says(promise = 34, text = {"The HINGE on a DOOR that can best be done without (SECRETS KEPT without it are the most);",
        "it; the ROW: SECRETS KEPT then."})
    static void p34_most() {
        fresh("d01l2;d02r2;d03l9;hl1*9;hl1*9;hr1;hr1;hl1*0");
        x.secret(1, 3);
        x.secret(2, 5);
        order("h0>0;h1>0;h2>1;h3>1;h4>2", 5);
        tells("4 keeps nothing", 4, () -> x.spare());
        row(8);
        x.take(4);
        tells("0 keeps less than 2", 0, () -> x.spare());
        row(5);
        x.secret(1, 6);
        tells("2 keeps less than 0", 2, () -> x.spare());
        row(6);
    }

    @Says(promise = 34, text = "of as good ones that with the most RENT, then the first:")
    static void p34_rent() {
        fresh("d01l9;d02l9;hl1*3;hl1*7;hl1*7;hl1*9;hl1*0");
        order("h4>0;h0>0;h2>1;h1>1", 4);
        tells("1 and 2 cost 7", 1, () -> x.spare());
        row(0);
        order("t1", 1);
        tells("2 costs 7", 2, () -> x.spare());
        order("t2", 1);
        tells("0 costs 3", 0, () -> x.spare());
        order("t0", 1);
        tells("4 costs nothing", 4, () -> x.spare());
        row(0);
    }

    @Says(promise = 34, text = "-2: none hangs.")
    static void p34_none() {
        x.shut();
        stays("no hinges", -2, () -> x.spare());
        fresh("d01l9;hl1");
        x.shut();
        stays("in the forge", -2, () -> x.spare());
        x.hang(0, 0);
        due("one hangs", x.spare(), 0);
        x.take(0);
        x.shut();
        stays("in the forge", -2, () -> x.spare());
    }
}
