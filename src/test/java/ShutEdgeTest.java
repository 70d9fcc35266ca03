/** Promises 19 to 27, sentence by sentence: what is shut. Nothing changes by these calls but the ROW. */
public final class ShutEdgeTest extends Asked {
    public static void main(String[] args) {
        Edges.run(ShutEdgeTest.class);
    }

    // ---- 19 to 21: shut, thief, kept

    @Says(promise = 19, text = "DOORS that are SHUT: how many; the ROW: they; those that SWING; those that LEAN.")
    static void p19_shut() {
        due("no doors", x.shut(), 0);
        row(0, 0, 0);
        add("d01l2;d12l2;d23l3;d34l1;d45l1;hl1;hl1;hl1;hl1;hl1;hl1;hl9");
        due("none", x.shut(), 0);
        row(0, 0, 31);
        order("h0>0;h1>0;h2>2;h3>2;h4>3;h5>3;h6>4", 7);
        due("0 and 3", x.shut(), 2);
        row(1 | 8, 4 | 16, 2);
        String before = state();
        x.shut();
        same("shut", before);
        x.days(2);
        due("rusty", x.shut(), 0);
        row(0, 1 | 4 | 8 | 16, 2);
        fresh("d01l1;d01l1;d01l1;d01l1;d01l1;d01l1;d01l1;d01l1;hl1;hl1");
        order("h0>7;h1>7", 2);
        due("the last of eight", x.shut(), 1);
        row(128, 0, 127);
    }

    /** A row of rooms 0 to 3 with shut doors 1 - 2; rooms 4 and 5 aside; secrets 1 to 7. */
    private static void rooms() {
        fresh("d01l9;d21l2;d23l9;d45l9;hl1;hl1");
        order("h0>1;h1>1", 2);
        x.sheet(2, 7, 1, 1);
    }

    @Says(promise = 20, text = {"ROOMS (bits) where a THIEF gets to from a ROOM (0 .. 7; that too);",
        "the ROW: the sum of SECRETS of these but the street's."})
    static void p20_thief() {
        rooms();
        int[] reached = {1 | 2, 1 | 2, 4 | 8, 4 | 8, 16 | 32, 16 | 32, 64, 128};
        int[] sums = {1, 1, 5, 5, 9, 9, 6, 7};
        for (int from = 0; from <= 7; from++) {
            int room = from;
            due("from " + from, x.thief(from), reached[from]);
            row(sums[from]);
            tells("from " + from, reached[from], () -> x.thief(room));
        }
        x.take(0);
        due("from the street", x.thief(0), 15);
        row(1 + 2 + 3);
        fresh("d01l9;d12l9;d23l9;d34l9;d45l9;d56l9;d67l9");
        x.sheet(2, 7, 9, 0);
        due("all along", x.thief(0), 255);
        row(63);
        due("all along from behind", x.thief(7), 255);
        row(63);
        fresh("d67l9;d56l9;d45l9;d34l9;d23l9;d12l9;d01l9");
        due("by doors in the other order", x.thief(0), 255);
        due("from behind", x.thief(7), 255);
    }

    @Says(promise = 20, text = "NONE: none such.")
    static void p20_noneSuch() {
        rooms();
        x.thief(3);
        stays("8", -1, () -> x.thief(8));
        for (int far : FAR) {
            stays("thief(" + far + ")", -1, () -> x.thief(far));
        }
    }

    @Says(promise = 21, text = "SECRETS that are KEPT, in all; the ROW: ROOMS (bits) 1 .. 7 where no THIEF gets to.")
    static void p21_kept() {
        due("no doors", x.kept(), 0);
        row(254);
        rooms();
        tells("all but of 1", 27, () -> x.kept());
        row(254 & ~2);
        x.take(1);
        tells("of 4 to 7", 22, () -> x.kept());
        row(16 | 32 | 64 | 128);
        x.secret(6, 0);
        due("a room without secrets", x.kept(), 16);
        row(16 | 32 | 64 | 128);
        fresh("d01l9;d12l9;d23l9;d34l9;d45l9;d56l9;d67l9");
        x.sheet(2, 7, 9, 0);
        due("none", x.kept(), 0);
        row(0);
    }

    // ---- 22: quiet

    /** Ways to room 3: by 0 and 1, by 2 and 3, by 4 alone; to room 4 by 3's door 5. Creaks are the strengths. */
    private static void ways() {
        fresh("d01l9;d13l9;d02l9;d23l9;d03l9;d34l9;hl1;hl2;hl3;hl3;hl4;hl9;hl9");
        rule("s", 0);
    }

    @Says(promise = 22, text = {"The way of a THIEF from the street to a ROOM (0 .. 7)",
        "by which all CREAKS of DOORS he goes through are the least in all;", "how much; the ROW: DOORS one behind the other."})
    static void p22_least() {
        ways();
        order("h0>0;h1>1;h2>2;h4>3;h5>4", 5);
        tells("1 and 2 are less than 3 and 4, and 9", 3, () -> x.quiet(3));
        row(0, 1);
        tells("on to 4", 3, () -> x.quiet(4));
        row(0, 1, 5);
        tells("one door", 1, () -> x.quiet(1));
        row(0);
        tells("the street", 0, () -> x.quiet(0));
        row();
        order("t5;h3>4", 2);
        due("3 by one door", x.quiet(3), 3);
        row(4);
        order("t3", 1);
        due("0 by one door", x.quiet(3), 0);
        row(4);
        due("1 is less than 0 and 2", x.quiet(1), 1);
        row(0);
        order("t1", 1);
        due("round about: 0 and 0 are less than 1", x.quiet(1), 0);
        row(4, 1);
        rule("999", 0);
        order("h1>1;h3>4", 2);
        due("99 and 99 are more than 99", x.quiet(3), 99);
        row(4);
    }

    @Says(promise = 22, text = "of as quiet ones by the fewest DOORS, then the least row:")
    static void p22_fewest() {
        ways();
        due("all are 0: the fewest", x.quiet(3), 0);
        row(4);
        order("h5>4", 1);
        due("two of two doors: the least row", x.quiet(3), 0);
        row(0, 1);
        order("h0>1", 1);
        due("the other", x.quiet(3), 0);
        row(2, 3);
        order("h3>3;t5;h2>4", 3);
        due("1 by two", x.quiet(3), 1);
        row(0, 1);
        order("t2;t0;h1>0;t3;h0>4", 5);
        due("0 by two is less than 1 by one", x.quiet(3), 0);
        row(2, 3);
        order("h4>3;h2>2;t0;h0>1;h3>4", 5);
        due("3 by one, 3 by two, 7 by two", x.quiet(3), 3);
        row(4);
        fresh("d01l9;d10l9;d12l9;d21l9");
        due("doors beside one another", x.quiet(2), 0);
        row(0, 2);
        fresh("d02l9;d13l9;d23l9;d01l9");
        due("compared from the first door on", x.quiet(3), 0);
        row(0, 2);
    }

    @Says(promise = 22, text = "-2: there is none;")
    static void p22_none() {
        fresh("d02l9;d13l9");
        due("room 2", x.quiet(2), 0);
        row(0);
        stays("room 1, which leads on to 3 alone", -2, () -> x.quiet(1));
        stays("room 3", -2, () -> x.quiet(3));
        ways();
        x.quiet(3);
        stays("no door", -2, () -> x.quiet(7));
        order("h5>5;h6>5", 2);
        x.quiet(3);
        stays("a shut door", -2, () -> x.quiet(4));
        order("t6", 1);
        due("not shut", x.quiet(4), 9);
        row(4, 5);
    }

    @Says(promise = 22, text = "NONE: none such.")
    static void p22_noneSuch() {
        ways();
        x.quiet(3);
        stays("8", -1, () -> x.quiet(8));
        for (int far : FAR) {
            stays("quiet(" + far + ")", -1, () -> x.quiet(far));
        }
    }

    // ---- 23: lasts

    @Says(promise = 23, text = "After how many DAYS (0 .. 60; no gales) a ROOM (1 .. 7) is not safe first (a THIEF gets there).")
    static void p23_days() {
        fresh("d01l6;d12l2;d45l9;hl4;hl4;hl1;hl1");
        tells("nothing hangs", 0, () -> x.lasts(1));
        order("h0>0;h1>0", 2);
        // 4 and 4 less 1 each hold 6 up to three days, less 2 each 4.
        tells("two of 4", 4, () -> x.lasts(1));
        tells("behind it", 4, () -> x.lasts(2));
        order("h2>1;h3>1;o2*5", 3);
        tells("as long as the outer one", 4, () -> x.lasts(2));
        order("o0*9;o1*9", 2);
        // 9 days by oil, then 4 by rust.
        tells("oil", 13, () -> x.lasts(1));
        tells("the outer one", 13, () -> x.lasts(2));
        x.days(12);
        tells("one left", 1, () -> x.lasts(1));
        x.day();
        tells("none left", 0, () -> x.lasts(1));
    }

    @Says(promise = 23, text = "-2: in none of these;")
    static void p23_none() {
        fresh("d01l9;d02l9;hl9;hl8;hl9;hl7");
        order("h0>0;h1>0;h2>1;h3>1", 4);
        x.shut();
        stays("5 and 4 hold 9 for ever", -2, () -> x.lasts(1));
        due("5 and 3 do not", x.lasts(2), 8);
        stays("no door leads there", -2, () -> x.lasts(3));
    }

    @Says(promise = 23, text = "NONE: none such.")
    static void p23_noneSuch() {
        fresh("d01l9");
        x.shut();
        stays("the street", -1, () -> x.lasts(0));
        stays("8", -1, () -> x.lasts(8));
        for (int far : FAR) {
            stays("lasts(" + far + ")", -1, () -> x.lasts(far));
        }
        due("7", x.lasts(7), -2);
    }

    // ---- 24, 25: rent, rusts

    @Says(promise = 24, text = "Rent that is paid in the next n DAYS (0 .. 99), as HINGES hang; the ROW: of each DOOR.")
    static void p24_rent() {
        due("no doors", x.rent(99), 0);
        row();
        fresh("d01l9;d02l9;d03r9;hl9*9;hl9*8;hl9*7;hl9*0;hl9*5");
        tells("nothing hangs", 0, () -> x.rent(99));
        row(0, 0, 0);
        order("h0>0;h1>0;h2>1;h3>1", 4);
        tells("0 days", 0, () -> x.rent(0));
        row(0, 0, 0);
        tells("1 day", 24, () -> x.rent(1));
        row(17, 7, 0);
        tells("99 days", 2376, () -> x.rent(99));
        row(1683, 693, 0);
        due("as much as is paid", x.days(60), 24 * 60);
    }

    @Says(promise = 24, text = "NONE: another n.")
    static void p24_another() {
        fresh("d01l9;hl9");
        x.shut();
        stays("100", -1, () -> x.rent(100));
        for (int far : FAR) {
            stays("rent(" + far + ")", -1, () -> x.rent(far));
        }
    }

    @Says(promise = 25, text = "After how many DAYS (0 .. 60), if neither of its two HINGES had OIL now, a DOOR is not SHUT first.")
    static void p25_days() {
        fresh("d01l6;d02l9;hl4;hl4;hl1;hl1");
        order("h0>0;h1>0;h2>1;h3>1", 4);
        tells("two of 4", 4, () -> x.rusts(0));
        tells("not shut now", 0, () -> x.rusts(1));
        order("o0*9;o1*3", 2);
        tells("as if there were no oil", 4, () -> x.rusts(0));
        x.days(3);
        tells("no rust by oil till now", 4, () -> x.rusts(0));
        x.days(1);
        // Rust 0 and 1: 4 - k / 2 and 4 - (k + 1) / 2 hold 6 up to 2 days.
        tells("one of them is rusty", 3, () -> x.rusts(0));
    }

    @Says(promise = 25, text = "-2: it stays SHUT;")
    static void p25_stays() {
        fresh("d01l9;d02l9;d03l1;hl9;hl8;hl9;hl7;hl5;hl1");
        order("h0>0;h1>0;h2>1;h3>1;h4>2;h5>2", 6);
        x.shut();
        stays("5 and 4 of 9", -2, () -> x.rusts(0));
        stays("1 and 0 of 1", -2, () -> x.rusts(2));
        due("5 and 3 of 9", x.rusts(1), 8);
    }

    @Says(promise = 25, text = "-3: it has not two;")
    static void p25_notTwo() {
        fresh("d01l1;hl9;hl9");
        x.shut();
        stays("none", -3, () -> x.rusts(0));
        x.hang(0, 0);
        x.shut();
        stays("one", -3, () -> x.rusts(0));
        x.hang(1, 0);
        x.shut();
        stays("two", -2, () -> x.rusts(0));
    }

    @Says(promise = 25, text = "NONE: none such.")
    static void p25_noneSuch() {
        stays("no house", -1, () -> x.rusts(0));
        fresh("d01l1");
        x.shut();
        stays("1", -1, () -> x.rusts(1));
        for (int far : FAR) {
            stays("rusts(" + far + ")", -1, () -> x.rusts(far));
        }
    }

    // ---- 26, 27: wall, guard

    @Says(promise = 26, text = {"The fewest DOORS that must be SHUT (whatever hangs on them now; all others are not)",
        "so that no THIEF gets to a ROOM (1 .. 7): how many; the ROW: they"})
    static void p26_fewest() {
        fresh("d01l1;d02l1;d13l1;d23l1;d34l1;hl9;hl9");
        tells("room 1: the door and the way round", 2, () -> x.wall(1));
        row(1 | 2);
        tells("room 4: its door alone", 1, () -> x.wall(4));
        row(16);
        tells("room 5: no door leads there", 0, () -> x.wall(5));
        row(0);
        order("h0>4;h1>4", 2);
        tells("shut now, and told all the same", 1, () -> x.wall(4));
        row(16);
        fresh("d01l1;d10l1;d01r1;d10r1;d01l1;d10l1;d01r1;d10r1");
        tells("all eight", 8, () -> x.wall(1));
        row(255);
        tells("room 7", 0, () -> x.wall(7));
        row(0);
    }

    @Says(promise = 26, text = "(of as few the least).")
    static void p26_least() {
        fresh("d34l1;d23l1;d12l1;d01l1");
        tells("any of four: the least", 1, () -> x.wall(4));
        row(1);
        tells("any of two", 1, () -> x.wall(2));
        row(4);
        fresh("d01l1;d02l1;d13l1;d23l1;d34l1;d35l1");
        tells("1 with 2, 1 with 8, 4 with 2, 4 with 8", 2, () -> x.wall(3));
        row(1 | 2);
    }

    @Says(promise = 26, text = "NONE: none such.")
    static void p26_noneSuch() {
        fresh("d01l1");
        x.shut();
        stays("the street", -1, () -> x.wall(0));
        stays("8", -1, () -> x.wall(8));
        for (int far : FAR) {
            stays("wall(" + far + ")", -1, () -> x.wall(far));
        }
    }

    @Says(promise = 27, text = {"The fewest DOORS that must be SHUT so that SECRETS of v (0 .. 63) and more are KEPT: how many;",
        "the ROW: they; SECRETS KEPT so."})
    static void p27_fewest() {
        tells("no doors", 0, () -> x.guard(0));
        row(0, 0);
        // Room 1 by two doors, room 2 by one, room 3 behind 2, room 7 by none.
        fresh("d01l1;d10l1;d02l1;d23l1;hl9;hl9");
        x.secret(1, 9);
        x.secret(2, 3);
        x.secret(3, 5);
        x.secret(7, 2);
        order("h0>2;h1>2", 2);
        tells("0", 0, () -> x.guard(0));
        row(0, 2);
        tells("2", 0, () -> x.guard(2));
        row(0, 2);
        tells("3: one door, of as few the least", 1, () -> x.guard(3));
        row(4, 10);
        tells("10", 1, () -> x.guard(10));
        row(4, 10);
        tells("11", 2, () -> x.guard(11));
        row(1 | 2, 11);
        tells("12", 3, () -> x.guard(12));
        row(1 | 2 | 4, 19);
        tells("19", 3, () -> x.guard(19));
        row(1 | 2 | 4, 19);
        fresh("d01l1;d12l1;d23l1;d34l1;d45l1;d56l1;d67l1");
        x.sheet(2, 7, 9, 0);
        tells("all 63", 1, () -> x.guard(63));
        row(1, 63);
        tells("9: the last door would do, the first is less", 1, () -> x.guard(9));
        row(1, 63);
    }

    @Says(promise = 27, text = "-2: that much there is not.")
    static void p27_notSoMuch() {
        x.shut();
        stays("1 of none", -2, () -> x.guard(1));
        stays("63 of none", -2, () -> x.guard(63));
        fresh("d01l1");
        x.secret(1, 9);
        x.shut();
        stays("10 of 9", -2, () -> x.guard(10));
        due("9 of 9", x.guard(9), 1);
    }

    @Says(promise = 27, text = "NONE: another v.")
    static void p27_another() {
        fresh("d01l1");
        x.shut();
        stays("64", -1, () -> x.guard(64));
        for (int far : FAR) {
            stays("guard(" + far + ")", -1, () -> x.guard(far));
        }
    }
}
