/** Promises 35 to 44, sentence by sentence: gales, creaks that were heard, bidding, rings. */
public final class CreaksEdgeTest extends Asked {
    public static void main(String[] args) {
        Edges.run(CreaksEdgeTest.class);
    }

    // ---- 35, 36: risk, stands

    /** Door 0 swings with 1 and 2, door 1 is shut by 2 and 2, door 2 swings with 5; a hinge of 1 is in the forge. */
    private static void windyDoors() {
        fresh("d01l9;d02r4;d03l9;hl1;hl2;hr2;hr2;hl5;hl1");
        order("h0>0;h1>0;h2>1;h3>1;h4>2", 5);
    }

    @Says(promise = 35, text = "HINGES (bits) that can fall in a gale of g (1 .. 19);")
    static void p35_canFall() {
        tells("no hinges", 0, () -> x.risk(19));
        windyDoors();
        // A draw of g is g - 1 at most: it is above a hold of 1 from 3 on, of 2 from 4 on, of 5 from 7 on.
        int[] falling = {0, 0, 0, 1, 3, 3, 3, 19};
        for (int g = 1; g <= 19; g++) {
            int strong = g;
            tells("risk(" + g + ")", g > 7 ? 19 : falling[g], () -> x.risk(strong));
        }
        x.days(2);
        tells("rust: a hold of 0, and door 1 is open", 1, () -> x.risk(2));
        tells("rust", 1 | 2 | 4 | 8, () -> x.risk(3));
        x.take(0);
        tells("none in the forge", 0, () -> x.risk(2));
    }

    @Says(promise = 35, text = {"the ROW: how likely none falls (each DRAW as likely, each by itself):",
        "the fraction, in lowest terms, upper and lower number."})
    static void p35_fraction() {
        x.risk(19);
        row(1, 1);
        windyDoors();
        x.risk(1);
        row(1, 1);
        x.risk(2);
        row(1, 1);
        x.risk(3);
        row(2, 3);
        x.risk(4);
        row(3, 8);
        x.risk(5);
        row(6, 25);
        x.risk(6);
        row(1, 6);
        x.risk(7);
        row(36, 343);
        x.risk(12);
        row(1, 48);
        x.risk(19);
        row(36, 6859);
        x.take(0);
        x.take(1);
        x.risk(18);
        row(1, 3);
        x.risk(6);
        row(1, 1);
        fresh("d01l9;d12l9;d23l9;d34l9;d45l9;d56l9");
        add("hl1;hl1;hl1;hl1;hl1;hl1;hl1;hl1;hl1;hl1;hl1;hl1");
        order("h0>0;h1>0;h2>1;h3>1;h4>2;h5>2", 6);
        order("h6>3;h7>3;h8>4;h9>4;h10>5;h11>5", 6);
        due("all twelve", x.risk(19), 4095);
        row(4096, 2213314919066161L);
        due("all twelve", x.risk(18), 4095);
        row(1, 282429536481L);
        x.days(2);
        due("all twelve, holding nothing", x.risk(19), 4095);
        row(1, 2213314919066161L);
        due("all twelve, holding nothing", x.risk(2), 4095);
        row(1, 4096);
    }

    @Says(promise = 35, text = "NONE: another g.")
    static void p35_another() {
        windyDoors();
        x.risk(7);
        stays("0", -1, () -> x.risk(0));
        stays("20", -1, () -> x.risk(20));
        for (int far : FAR) {
            stays("risk(" + far + ")", -1, () -> x.risk(far));
        }
    }

    @Says(promise = 36, text = "The strongest gale (1 .. 19) in which nothing can fall.")
    static void p36_strongest() {
        x.shut();
        stays("no hinges", 19, () -> x.stands());
        for (int strength = 1; strength <= 9; strength++) {
            fresh("d01l9;hl" + strength);
            x.shut();
            stays("in the forge", 19, () -> x.stands());
            x.hang(0, 0);
            int most = strength + 1;
            stays("a hold of " + strength, most, () -> x.stands());
            due("nothing can fall in it", x.risk(most), 0);
            due("in the next it can", x.risk(most + 1), 1);
        }
        windyDoors();
        stays("the weakest", 2, () -> x.stands());
        order("t0;t1", 2);
        stays("door 1 is shut, 5 is left", 6, () -> x.stands());
        x.take(4);
        stays("a shut door alone", 19, () -> x.stands());
        x.days(2);
        stays("not shut by rust", 2, () -> x.stands());
        x.days(9);
        stays("a hold of 0", 1, () -> x.stands());
    }

    // ---- 37, 38: heard, forget

    @Says(promise = 37, text = "A CREAK (0 .. 198) was heard, behind those that were heard before: how many were.")
    static void p37_howMany() {
        x.shut();
        due("the least", x.heard(0), 1);
        due("the most", x.heard(198), 2);
        due("once more", x.heard(0), 3);
        due("heard", x.count(7), 3);
        fresh("d01l9;d12l9;hl1;hl2");
        order("h0>0;h1>1", 2);
        rule("s", 0);
        x.heard(1);
        x.heard(2);
        due("behind those before", x.ways(), 1);
        row(4, 0, 1);
        x.forget();
        x.heard(2);
        x.heard(1);
        due("in the other order", x.ways(), 0);
    }

    @Says(promise = 37, text = "Refused: others, 12.")
    static void p37_others() {
        x.shut();
        stays("199", -1, () -> x.heard(199));
        for (int far : FAR) {
            stays("heard(" + far + ")", -1, () -> x.heard(far));
        }
        for (int k = 1; k <= 12; k++) {
            due("heard", x.heard(k), k);
        }
        stays("the thirteenth", -1, () -> x.heard(0));
        stays("the thirteenth", -1, () -> x.heard(199));
    }

    @Says(promise = 38, text = "All that was heard is forgotten: how much there was.")
    static void p38_forget() {
        due("nothing", x.forget(), 0);
        x.heard(7);
        x.heard(7);
        due("two", x.forget(), 2);
        due("none is left", x.count(7), 0);
        due("nothing", x.forget(), 0);
        for (int k = 1; k <= 12; k++) {
            x.heard(7);
        }
        due("twelve", x.forget(), 12);
        due("there is room again", x.heard(0), 1);
        fresh("d01l9");
        x.heard(9);
        x.forget();
        x.heard(0);
        due("what was forgotten does not count", x.ways(), 1);
        row(2, 0);
    }

    // ---- 39 to 41: ways, been, sure

    /** Creaks: door 0 (0 - 1) 1, door 1 (1 - 2) 2, door 2 (0 - 2) 1, door 3 (2 - 3) 2, door 4 (0 - 3) shut. */
    private static void creakingDoors() {
        fresh("d01l9;d12l9;d02l9;d23l9;d03r9;hl1;hl2;hl1;hl2;hr5;hr4");
        order("h0>0;h1>1;h2>2;h3>3;h4>4;h5>4", 6);
        rule("s", 0);
    }

    private static void hear(int... creaks) {
        x.forget();
        for (int creak : creaks) {
            x.heard(creak);
        }
    }

    @Says(promise = 39, text = {"Ways of a THIEF from the street through DOORS that are not SHUT, by one DOOR for each CREAK that was heard, in that order:",
        "how many", "the ROW: ROOMS (bits) where he can be in the end, then the least row of DOORS"})
    static void p39_ways() {
        tells("nothing heard, no doors", 1, () -> x.ways());
        row(1);
        creakingDoors();
        tells("nothing heard", 1, () -> x.ways());
        row(1);
        hear(1);
        tells("1", 2, () -> x.ways());
        row(2 | 4, 0);
        hear(1, 2);
        tells("1, 2", 3, () -> x.ways());
        row(2 | 4 | 8, 0, 1);
        hear(1, 2, 1);
        // Door 0 and 1 and 2, door 2 and 1 and 0; from room 3 there is none.
        tells("1, 2, 1", 2, () -> x.ways());
        row(1, 0, 1, 2);
        hear(1, 1, 1);
        tells("1, 1, 1", 4, () -> x.ways());
        row(2 | 4, 0, 0, 0);
        x.take(0);
        hear(0);
        tells("a door with none creaks 0", 1, () -> x.ways());
        row(2, 0);
    }

    @Says(promise = 39, text = "through DOORS that are not SHUT")
    static void p39_shut() {
        creakingDoors();
        due("door 4 is shut", x.door(4, 5), 2);
        due("it would creak", x.door(4, 6), 9);
        hear(9);
        tells("through none that is shut", 0, () -> x.ways());
        x.take(5);
        hear(5);
        tells("it swings", 1, () -> x.ways());
        row(8, 4);
    }

    @Says(promise = 39, text = "(1000000, if there are more);")
    static void p39_million() {
        // Ten creaks by doors between two rooms: 3 to the 10th is 59049, 4 to the 10th 1048576.
        fresh("d01l9;d10l9;d01l9");
        hear(0, 0, 0, 0, 0, 0, 0, 0, 0, 0);
        tells("3 to the 10th", 59049, () -> x.ways());
        add("d10l9");
        tells("4 to the 10th", 1000000, () -> x.ways());
        row(1, 0, 0, 0, 0, 0, 0, 0, 0, 0, 0);
        fresh("d01l9;d10l9;d01l9;d10l9;d01l9;d10l9;d01l9;d10l9");
        hear(0, 0, 0, 0, 0, 0);
        tells("8 to the 6th", 262144, () -> x.ways());
        hear(0, 0, 0, 0, 0, 0, 0);
        tells("8 to the 7th", 1000000, () -> x.ways());
        hear(0, 0, 0, 0, 0, 0, 0, 0, 0, 0, 0, 0);
        tells("8 to the 12th", 1000000, () -> x.ways());
        row(1, 0, 0, 0, 0, 0, 0, 0, 0, 0, 0, 0, 0);
        fresh("d01l9;d01l9;d01l9;d01l9;d01l9;d10r9;d10r9;hr1;hr1");
        rule("1", 0);
        hear(0, 0, 0, 0, 0, 0, 0);
        tells("7 to the 7th", 823543, () -> x.ways());
        order("h0>5;h1>6", 2);
        tells("5 to the 7th", 78125, () -> x.ways());
        hear(0, 1, 0, 1, 0, 1, 0, 1, 0, 1, 0, 1);
        tells("five out and two back, six times: just a million", 1000000, () -> x.ways());
        row(1, 0, 5, 0, 5, 0, 5, 0, 5, 0, 5, 0, 5);
        hear(0, 1, 0, 1, 0, 1, 0, 1, 0, 1, 0);
        tells("but for the last", 500000, () -> x.ways());
    }

    @Says(promise = 39, text = "(none without a way).")
    static void p39_none() {
        hear(0);
        tells("no doors", 0, () -> x.ways());
        row(0);
        creakingDoors();
        hear(1, 2, 2, 2, 7);
        tells("the last can't be", 0, () -> x.ways());
        row(0);
        hear(7, 1);
        tells("the first can't be", 0, () -> x.ways());
        row(0);
    }

    @Says(promise = 39, text = "(Through a DOOR he can go from either of its ROOMS to the other, as often as he likes.)")
    static void p39_either() {
        fresh("d10l9");
        hear(0, 0, 0);
        tells("to and fro", 1, () -> x.ways());
        row(2, 0, 0, 0);
        fresh("d10l9;d21l9");
        hear(0, 0, 0, 0);
        // By rooms 1 0 1 0, 1 0 1 2, 1 2 1 0, 1 2 1 2.
        tells("four ways", 4, () -> x.ways());
        row(1 | 4, 0, 0, 0, 0);
    }

    @Says(promise = 40, text = "ROOMS (bits) in which he can have been behind the k-th CREAK (0 .. how many were heard), by all these ways.")
    static void p40_been() {
        x.shut();
        stays("nothing heard", 1, () -> x.been(0));
        creakingDoors();
        hear(1, 2);
        x.shut();
        stays("in the street", 1, () -> x.been(0));
        stays("behind the first", 2 | 4, () -> x.been(1));
        stays("behind the second", 2 | 4 | 8, () -> x.been(2));
        x.heard(1);
        x.shut();
        stays("no way leads on from room 3", 2 | 4, () -> x.been(2));
        stays("in the end", 1, () -> x.been(3));
        x.heard(2);
        x.shut();
        stays("no way at all", 0, () -> x.been(0));
        stays("no way at all", 0, () -> x.been(2));
        stays("no way at all", 0, () -> x.been(4));
    }

    @Says(promise = 40, text = "NONE: another k.")
    static void p40_another() {
        x.shut();
        stays("1 of none", -1, () -> x.been(1));
        creakingDoors();
        hear(1, 2);
        x.shut();
        stays("3 of 2", -1, () -> x.been(3));
        for (int far : FAR) {
            stays("been(" + far + ")", -1, () -> x.been(far));
        }
        hear(7);
        x.shut();
        stays("2 of 1, without a way", -1, () -> x.been(2));
    }

    @Says(promise = 41, text = "DOORS (bits) through which he went in all these ways; the ROW: in some.")
    static void p41_sure() {
        tells("nothing heard", 0, () -> x.sure());
        row(0);
        creakingDoors();
        hear(1);
        tells("0 or 2", 0, () -> x.sure());
        row(1 | 4);
        hear(1, 2, 1);
        tells("0, 1, 2 or 2, 1, 0", 1 | 2 | 4, () -> x.sure());
        row(1 | 2 | 4);
        hear(1, 2, 2);
        // 0 1 1, 0 1 3, 2 1 1, 2 3 1, 2 3 3.
        tells("1, 2, 2", 0, () -> x.sure());
        row(1 | 2 | 4 | 8);
        x.take(3);
        hear(1, 0);
        tells("2 and 3", 4 | 8, () -> x.sure());
        row(4 | 8);
        hear(1, 2, 0);
        tells("0, 1, 3", 1 | 2 | 8, () -> x.sure());
        row(1 | 2 | 8);
        hear(1, 2, 1, 1);
        tells("round, then 0 or 2 once more", 1 | 2 | 4, () -> x.sure());
        row(1 | 2 | 4);
    }

    @Says(promise = 41, text = "-2: there is none.")
    static void p41_none() {
        hear(0);
        x.shut();
        stays("no doors", -2, () -> x.sure());
        creakingDoors();
        hear(9);
        x.shut();
        stays("a shut door", -2, () -> x.sure());
        hear(1, 7);
        stays("the last can't be", -2, () -> x.sure());
    }

    // ---- 42: behind

    @Says(promise = 42, text = {"HINGES in THE FORGE (one or two at once, as bits) that, hung on a DOOR with none, let its CREAK be so much (0 .. 198):",
        "how many such sets; the ROW: the least of them (NONE)."})
    static void p42_sets() {
        fresh("d01l5;d02l5;hl3;hl2;hr4;hb2;hl1;hl6");
        tells("no rust: 4 alone and 6 by two", 15, () -> x.behind(0, 0));
        row(1);
        rule("s", 0);
        x.hang(4, 1);
        // On door 0 can be 0 (3), 1 (2), 3 (2), 5 (6).
        tells("2 by one", 2, () -> x.behind(0, 2));
        row(2);
        tells("5 by two", 2, () -> x.behind(0, 5));
        row(3);
        tells("4 by two", 1, () -> x.behind(0, 4));
        row(2 | 8);
        tells("3 by one, not by 2 and the 1 that hangs", 1, () -> x.behind(0, 3));
        row(1);
        tells("9 by two", 1, () -> x.behind(0, 9));
        row(1 | 32);
        tells("none", 0, () -> x.behind(0, 7));
        row(-1);
        tells("0: none, for one at least is hung", 0, () -> x.behind(0, 0));
        row(-1);
        x.days(3);
        rule("t*10+n+x*5", 0);
        tells("one", 4, () -> x.behind(0, 31));
        row(1);
        tells("two that shut it: 3 + 2, 3 + 2, 3 + 6, 2 + 6, 2 + 6", 5, () -> x.behind(0, 74));
        row(3);
        tells("two that do not: 2 + 2", 1, () -> x.behind(0, 64));
        row(2 | 8);
        rule("999", 0);
        tells("198", 6, () -> x.behind(0, 198));
        row(3);
        tells("99", 4, () -> x.behind(0, 99));
        row(1);
        fresh("d01l5");
        tells("no hinges", 0, () -> x.behind(0, 0));
        row(-1);
    }

    @Says(promise = 42, text = "-2: HINGES are on it;")
    static void p42_on() {
        fresh("d01l5;d02l5;hl3;hl2;hl1");
        x.hang(0, 0);
        x.shut();
        stays("one", -2, () -> x.behind(0, 0));
        x.hang(1, 0);
        x.shut();
        stays("two", -2, () -> x.behind(0, 198));
        due("none", x.behind(1, 0), 1);
    }

    @Says(promise = 42, text = "NONE: others.")
    static void p42_others() {
        stays("no doors", -1, () -> x.behind(0, 0));
        fresh("d01l5;d02l5;hl3;hl2;hl1");
        x.hang(0, 0);
        x.shut();
        stays("door 2", -1, () -> x.behind(2, 0));
        stays("199", -1, () -> x.behind(1, 199));
        stays("199 of a door with hinges", -1, () -> x.behind(0, 199));
        for (int far : FAR) {
            stays("door " + far, -1, () -> x.behind(far, 0));
            stays("a creak of " + far, -1, () -> x.behind(1, far));
        }
    }

    // ---- 43: bid

    @Says(promise = 43, text = {"The price of a HINGE by bidding: DOORS by turns, 0 first,", "bids 1 more than the last",
        "till all others pass one behind the other: the DOOR that has it; the ROW: the price.", "(The first bids 1;"})
    static void p43_turns() {
        fresh("d01l1;hl1");
        tells("one alone", 0, () -> x.bid(0));
        row(1);
        fresh("d01l9;hl1");
        tells("one alone bids 1", 0, () -> x.bid(0));
        row(1);
        // By turns 1, 2, 3, ..: the last that can goes one above the others.
        int[][] cases = {{1, 1, 0, 1}, {1, 2, 1, 2}, {2, 1, 0, 1}, {2, 2, 1, 2}, {3, 2, 0, 3}, {5, 9, 1, 6}, {9, 5, 0, 5},
            {9, 4, 0, 5}, {4, 9, 1, 4}, {9, 9, 0, 9}, {8, 8, 1, 8}};
        for (int[] c : cases) {
            fresh("d01l" + c[0] + ";d02l" + c[1] + ";hl1");
            tells(c[0] + " and " + c[1], c[2], () -> x.bid(0));
            row(c[3]);
        }
        fresh("d01l4;d02l4;d03l4;hl1");
        tells("three of 4: 1, 2, 3, 4", 0, () -> x.bid(0));
        row(4);
        fresh("d01l2;d02l9;d03l3;hl1");
        tells("2, 9 and 3: 1, 2, 3, 4", 1, () -> x.bid(0));
        row(4);
        fresh("d01l1;d02l1;d03l1;d04l1;d05l1;d06l1;d07l1;d07l9;hl1");
        tells("seven of 1 and the last of 9", 7, () -> x.bid(0));
        row(2);
    }

    @Says(promise = 43, text = "each that it FITS, has room and is not SHUT")
    static void p43_which() {
        fresh("d01l9;d02r9;d03l9;hl1;hr1;hb1;hl1;hl1");
        tells("l: 0 and 2", 0, () -> x.bid(0));
        row(9);
        tells("r: 1 alone", 1, () -> x.bid(1));
        row(1);
        tells("b: all three", 2, () -> x.bid(2));
        row(9);
        order("h3>0;h4>0", 2);
        tells("no room at 0, though it is not shut", 2, () -> x.bid(0));
        row(1);
        fresh("d01l2;d02l9;hl1;hl1;hl1");
        order("h0>0;h1>0", 2);
        tells("0 is shut", 1, () -> x.bid(2));
        row(1);
    }

    @Says(promise = 43, text = "if that is no more than what it is worth to it (WEIGHT less HOLDS on it, 0 at least)")
    static void p43_worth() {
        fresh("d01l9;d02l5;hl7;hl1;hl9;hl1");
        x.hang(0, 0);
        tells("2 and 5", 1, () -> x.bid(1));
        row(2);
        x.day();
        tells("2 and 5 by so little rust", 1, () -> x.bid(1));
        row(2);
        x.day();
        tells("3 and 5 by rust", 1, () -> x.bid(1));
        row(4);
        order("t0;h2>0", 2);
        tells("0 and 5", 1, () -> x.bid(1));
        row(1);
        order("t2;h2>1", 2);
        tells("9 and less than 0", 0, () -> x.bid(1));
        row(1);
    }

    @Says(promise = 43, text = {"and it is not the last bidder itself;", "a DOOR that bid last is passed over.)"})
    static void p43_notItself() {
        fresh("d01l9;d02l1;hl1");
        tells("1 can't go above 1", 0, () -> x.bid(0));
        row(1);
        fresh("d01l1;d02l9;d03l1;hl1");
        tells("0 bids 1, 1 bids 2", 1, () -> x.bid(0));
        row(2);
        fresh("d01l3;d02l1;d03l2;hl1");
        tells("0 bids 1, 2 bids 2, 0 bids 3", 0, () -> x.bid(0));
        row(3);
    }

    @Says(promise = 43, text = "-2: nobody bids;")
    static void p43_nobody() {
        fresh("hl1");
        x.shut();
        stays("no doors", -2, () -> x.bid(0));
        fresh("d01l3;d02l3;hr1;hl1;hl3;hl9");
        x.shut();
        stays("it fits none", -2, () -> x.bid(0));
        order("h2>0;h3>1", 2);
        x.shut();
        stays("worth nothing to any", -2, () -> x.bid(1));
    }

    @Says(promise = 43, text = "-3: it is on a DOOR;")
    static void p43_onADoor() {
        fresh("d01l3;d02l3;hl1");
        x.hang(0, 1);
        x.shut();
        stays("it hangs", -3, () -> x.bid(0));
    }

    @Says(promise = 43, text = "NONE: none such.")
    static void p43_noneSuch() {
        stays("no hinges", -1, () -> x.bid(0));
        fresh("d01l3;hl1");
        x.bid(0);
        stays("hinge 1", -1, () -> x.bid(1));
        for (int far : FAR) {
            stays("bid(" + far + ")", -1, () -> x.bid(far));
        }
    }

    // ---- 44: rings

    @Says(promise = 44, text = {"Each HINGE on a DOOR would rather be on another DOOR:",
        "that of those it FITS, other than its own, with the greatest WEIGHT (of equal ones the first;"})
    static void p44_rather() {
        fresh("d01l9;d02l5;d03l1;hl1;hl1;hl1");
        order("h0>0;h1>1;h2>2", 3);
        // 0 wants door 1, 1 and 2 want door 0.
        tells("0 and 1", 2, () -> x.rings());
        row(3, 1);
        fresh("d01l5;d02l5;d03l5;hl1;hl1;hl1");
        order("h0>0;h1>1;h2>2", 3);
        tells("of equal ones the first: 0 wants 1, 1 and 2 want 0", 2, () -> x.rings());
        row(3, 1);
        fresh("d01r9;d02l5;d03l1;hl1;hl1;hr1");
        order("h0>1;h1>2;h2>0", 3);
        tells("those that they fit: 1 and 2", 2, () -> x.rings());
        row(3, 1);
        x.bend(0);
        tells("0 wants door 0 now, whose hinge fits no other", 0, () -> x.rings());
        row(0, 0);
        x.bend(2);
        tells("2 wants door 1", 2, () -> x.rings());
        row(1 | 4, 1);
    }

    @Says(promise = 44, text = "none: it stays).")
    static void p44_stays() {
        tells("no hinges", 0, () -> x.rings());
        row(0, 0);
        fresh("d01l9;hl1;hl1");
        order("h0>0;h1>0", 2);
        tells("one door", 0, () -> x.rings());
        row(0, 0);
        x.take(1);
        tells("one is in the forge", 0, () -> x.rings());
        row(0, 0);
        fresh("d01l9;d02r9;hl1;hr1");
        order("h0>0;h1>1", 2);
        tells("no other that it fits", 0, () -> x.rings());
        row(0, 0);
        fresh("d01l9;d02l9;hl1;hl1");
        tells("in the forge", 0, () -> x.rings());
        row(0, 0);
    }

    @Says(promise = 44, text = "Its next one is the first by number that hangs there (none: no ring).")
    static void p44_next() {
        fresh("d01l9;d02l5;hl1;hl1;hl1;hl1");
        order("h3>0;h1>0;h2>1;h0>1", 4);
        tells("0 and 1: 2 and 3 are next of none", 2, () -> x.rings());
        row(3, 1);
        order("t1", 1);
        tells("0 and 3", 2, () -> x.rings());
        row(1 | 8, 1);
        order("t0", 1);
        tells("2 and 3", 2, () -> x.rings());
        row(4 | 8, 1);
        order("t3", 1);
        tells("none hangs there", 0, () -> x.rings());
        row(0, 0);
        fresh("d01l9;d02l5;d03l1;hl1;hl1");
        order("h0>1;h1>2", 2);
        tells("none hangs at the heaviest", 0, () -> x.rings());
        row(0, 0);
    }

    @Says(promise = 44, text = "Rings in which each is next of the one before: how many HINGES are in such; the ROW: they (bits), how many rings.")
    static void p44_rings() {
        fresh("d01l5;d02l5;d03r5;d04r5;hl1;hl1;hr1;hr1");
        order("h0>0;h1>1;h2>2;h3>3", 4);
        tells("two rings of two", 4, () -> x.rings());
        row(15, 2);
        fresh("d01l9;d02r8;d03r7;hb1;hr1;hb1");
        order("h0>0;h1>1;h2>2", 3);
        tells("a ring of three", 3, () -> x.rings());
        row(7, 1);
        fresh("d01l9;d02l8;d03l7;hl1;hl1;hl1");
        order("h0>0;h1>1;h2>2", 3);
        tells("2 leads to a ring and is in none", 2, () -> x.rings());
        row(3, 1);
    }
}
