/** Promises 1 to 9, sentence by sentence: a new object, and the house. */
public final class HouseEdgeTest extends Asked {
    private static final String FULL_DOORS = "d01l1;d12l1;d23l1;d34l1;d45l1;d56l1;d67l1;d07l1";
    private static final String TWELVE = "hl1;hl1;hl1;hl1;hl1;hl1;hl1;hl1;hl1;hl1;hl1;hl1";

    public static void main(String[] args) {
        Edges.run(HouseEdgeTest.class);
    }

    @Says(promise = 1, text = "No DOORS, no HINGES.")
    static void p01_nothing() {
        due("doors", x.count(0), 0);
        due("hinges", x.count(1), 0);
        due("door 0", doorThrows(0, 0), true);
        due("hinge 0", hingeThrows(0, 0), true);
        due("another object is new too", new HingesOnHire().count(0), 0);
        add("d01l1;hl1");
        due("another object is still new", new HingesOnHire().count(0) + new HingesOnHire().count(1), 0);
    }

    // ---- 2: sign

    @Says(promise = 2, text = "Four signs come behind THE TEXT, of v the highest byte first")
    static void p02_highestByteFirst() {
        x.sign('h' << 24 | 'r' << 16 | '7' << 8 | '*');
        x.sign('5' << 24 | ';' << 16 | 'h' << 8 | 'b');
        x.sign('3' << 24 | 0xff << 16 | 0xff << 8 | 0xff);
        x.end(9);
        due("two hinges", x.house(), 2);
        due("hand", x.hinge(0, 0), 1);
        due("strength", x.hinge(0, 1), 7);
        due("rent", x.hinge(0, 2), 5);
        due("hand", x.hinge(1, 0), 2);
        due("strength", x.hinge(1, 1), 3);
    }

    @Says(promise = 2, text = "Four signs come behind THE TEXT, of v the highest byte first")
    static void p02_signsBelow0() {
        // The highest byte is 'h' + 128, 255 and 128: no sign of it is that of another.
        x.sign(('h' + 128) << 24 | 'l' << 16 | '1' << 8);
        x.end(3);
        due("'h' + 128", x.house(), -1);
        x.sign(-1);
        due("four of 255", x.house(), -1);
        x.sign(Integer.MIN_VALUE);
        due("128, then 0", x.count(9), 4);
        due("128", x.rule(), -1);
        x.sign('h' << 24 | ('l' + 128) << 16 | '1' << 8);
        x.end(3);
        due("'l' + 128", x.house(), -2);
    }

    @Says(promise = 2, text = "how many it has.")
    static void p02_howMany() {
        due("the first", x.sign(0), 4);
        due("the second", x.sign(0), 8);
        x.end(5);
        due("behind five", x.sign(0), 9);
        x.end(0);
        due("behind none", x.sign(0), 4);
    }

    @Says(promise = 2, text = "Refused: there would be more than 80.")
    static void p02_moreThan80() {
        for (int k = 1; k <= 20; k++) {
            due("sign", x.sign(0), 4 * k);
        }
        for (int left = 80; left >= 77; left--) {
            due("end", x.end(left), true);
            due("behind " + left, x.sign(0), -1);
            due("as it was", x.count(9), left);
        }
        due("end", x.end(76), true);
        due("behind 76", x.sign(0), 80);
    }

    // ---- 3: end

    @Says(promise = 3, text = "THE TEXT has its first n signs alone: true;")
    static void p03_firstSigns() {
        text("hl5*7");
        due("all", x.end(5), true);
        due("all are there", x.count(9), 5);
        due("three", x.end(3), true);
        due("three are there", x.count(9), 3);
        due("house", x.house(), 1);
        due("rent else", x.hinge(0, 2), 1);
        text("hl5*7");
        due("none", x.end(0), true);
        due("none is there", x.count(9), 0);
        due("none of none", x.end(0), true);
        due("an empty house", x.house(), 0);
    }

    @Says(promise = 3, text = "false if it has not so many, or n is below 0.")
    static void p03_notSoMany() {
        refused("1 of none", () -> x.end(1));
        text("hl5*7");
        refused("6 of 5", () -> x.end(6));
        refused("the most", () -> x.end(Integer.MAX_VALUE));
        refused("-1", () -> x.end(-1));
        refused("the least", () -> x.end(Integer.MIN_VALUE));
        due("all are there", x.count(9), 5);
        x.end(2);
        refused("3 of 2", () -> x.end(3));
        due("two are there", x.count(9), 2);
    }

    // ---- 4: house

    @Says(promise = 4, text = "THE TEXT tells of THE HOUSE (an empty one: nothing): how many LINES.")
    static void p04_howManyLines() {
        stays("an empty one", 0, () -> x.house());
        house("d01l1", 1);
        house("hl1", 1);
        house("hl1;d12l1;hb9*9", 3);
        due("doors", x.count(0), 2);
        due("hinges", x.count(1), 3);
        stays("an empty one", 0, () -> x.house());
    }

    @Says(promise = 4, text = "-1 - p: the sign at p can't stand there")
    static void p04_aSignThatCant() {
        house("x", -1);
        house(";", -1);
        house("D01l1", -1);
        house("0", -1);
        house("dx1l1", -2);
        house("d81l1", -2);
        house("d0xl1", -3);
        house("d0l1", -3);
        house("d/1l1", -2);
        house("d0/l1", -3);
        house("d08l1", -3);
        house("d01b1", -4);
        house("d01L1", -4);
        house("d01l0", -5);
        house("d01l1*", -6);
        house("d01l11", -6);
        house("d01l1 ", -6);
        house("hx1", -2);
        house("hl0", -3);
        house("hl1x", -4);
        house("hl11", -4);
        house("hl1*x", -5);
        house("hl1*11", -6);
        house("hl1*1*1", -6);
        house("hl1;x", -5);
        house("hl1;;hl1", -5);
        house("d01l1;hl1;d12l1;hl1;d23r", -25);
        house("d01l1;hl1;d12l1;hl1;d23x1", -24);
        due("nothing came", x.count(0) + x.count(1), 0);
    }

    @Says(promise = 4, text = "(its end, if it ends too early;")
    static void p04_endsTooEarly() {
        String line = "d01l1";
        for (int n = 1; n < 5; n++) {
            house(line.substring(0, n), -1 - n);
            house("hl1*1;" + line.substring(0, n), -7 - n);
        }
        house("h", -2);
        house("hl", -3);
        house("hl1*", -5);
        house("hl1;", -5);
        house("hl1*1;", -7);
        house("d01l1;", -7);
        house("d01l1;h", -8);
        due("nothing came", x.count(0) + x.count(1), 0);
    }

    /** 75 signs that can stand, with ; behind them 76. */
    private static final String LONGEST =
        "d01l1;d12l1;d23l1;d34l1;d45l1;d56l1;d67l1;hl1;hl1;hl1;hl1;hl1*2;hl1*3;hl1*4";

    @Says(promise = 4, text = "76, if it has more and the first 76 could go on or end;")
    static void p04_moreThan76() {
        house(LONGEST + ";d", -77);
        house(LONGEST + ";d01r", -77);
        house(LONGEST + ";xxxx", -77);
        house(LONGEST + ";;", -77);
        house(LONGEST + ";\u0000", -77);
        house(LONGEST + ";", -77);
        house(LONGEST + "xx", -76);
        house(LONGEST + "5d01r", -76);
        house(LONGEST.replace("d67l1", "d67x1") + ";d01r", -40);
        // The first 76 end within a line that goes on.
        String within = LONGEST.replace("hl1*2", "hl1");
        house(within + ";hl1", -77);
        house(within + ";hl1*2", -77);
        house(within + ";hl;", -77);
        house(within + ";h1;h", -76);
        due("nothing came", x.count(0) + x.count(1), 0);
        house(LONGEST, 14);
    }

    @Says(promise = 4, text = "76, if it has more and the first 76 could go on or end;")
    static void p04_moreThan76AndNoRoom() {
        add("d01r1;d02r1");
        house(LONGEST + ";d", -37);
        fresh("hr1;hr1;hr1;hr1;hr1;hr1");
        house(LONGEST + ";d", -71);
        fresh("hr1;hr1;hr1;hr1;hr1");
        house(LONGEST + ";h", -77);
        house(LONGEST + ";h1", -77);
    }

    @Says(promise = 4, text = "a second ROOM like the first: at it;")
    static void p04_roomsAlike() {
        for (int room = 0; room <= 7; room++) {
            house("d" + room + room + "l1", -3);
            house("hl1;d" + room + room, -7);
            house("d" + room + room + "xx", -3);
        }
        house("d00", -3);
        house("d0", -3);
        house("d01l1;d11l1", -9);
        due("nothing came", x.count(0) + x.count(1), 0);
        house("d01l1;d10l1;d12r1", 3);
    }

    @Says(promise = 4, text = "the first sign of a LINE for which there is no room).")
    static void p04_noRoomForADoor() {
        add("d01l1;d12l1;d23l1;d34l1;d45l1;d56l1;d67l1");
        house("d07l1;d06l1", -7);
        house("d07l1;hl1;d06l1", -11);
        house("d07l1;hl1;d", -11);
        house("d07l1;hl1;d66l1", -11);
        house("d07l1;x;d66l1", -7);
        due("doors", x.count(0), 7);
        house("d07l1", 1);
        house("d06l1", -1);
        house("d", -1);
        house("dx", -1);
        house("hl1;d06l1", -5);
        house("hl1", 1);
        due("doors", x.count(0), 8);
        due("hinges", x.count(1), 1);
    }

    @Says(promise = 4, text = "the first sign of a LINE for which there is no room).")
    static void p04_noRoomForAHinge() {
        house(TWELVE + ";hl1", -49);
        house(TWELVE + ";h", -49);
        house(TWELVE + ";d01l1", 13);
        house("hl1", -1);
        house("hx", -1);
        house("d12l1;hl1", -7);
        house("d12l1", 1);
        due("doors", x.count(0), 2);
        due("hinges", x.count(1), 12);
        fresh(FULL_DOORS);
        add(TWELVE);
        house("d01l1", -1);
        house("hl1", -1);
        house("x", -1);
        stays("an empty one", 0, () -> x.house());
    }

    @Says(promise = 4, text = "Nothing of it comes, if a LINE can't.")
    static void p04_nothingComes() {
        add("d01l5;hl4");
        order("h0>0;n", 2);
        x.shut();
        text("d02l1;hl1;hl1*3;d22l1");
        stays("a line of a room twice", -19, () -> x.house());
        text("d02l1;hl1;");
        stays("a line that is not there", -11, () -> x.house());
        text(FULL_DOORS);
        stays("a line without room", -43, () -> x.house());
        due("its text", x.count(9), 0);
        house("d02l1;hl1", 2);
        due("the next door", x.door(1, 1), 2);
        due("the next hinge", x.hinge(1, 1), 1);
    }

    // ---- 5: rule

    @Says(promise = 5, text = "THE TEXT is THE RULE (an empty one: none): 0.")
    static void p05_none() {
        add("d01l9;hl8");
        order("h0>0;n3", 2);
        creak("s+1", 9);
        creak("", 3);
        creak("s+2", 10);
        creak("5", 5);
        creak("r", 3);
    }

    @Says(promise = 5, text = "-1 - p: the sign at p can't stand there")
    static void p05_aSignThatCant() {
        add("d01l9;hl8");
        x.hang(0, 0);
        creak("s*2", 16);
        rule("a", -1);
        rule("+r", -1);
        rule("*r", -1);
        rule("<r", -1);
        rule(")", -1);
        rule("rr", -2);
        rule("r5", -2);
        rule("5r", -2);
        rule("r(", -2);
        rule("r)", -2);
        rule("r++r", -3);
        rule("r+*r", -3);
        rule("r*/r", -3);
        rule("r-)", -3);
        rule("r<>s", -3);
        rule("r<s=o", -4);
        rule("r<s+w=o", -6);
        rule("(r<s=o)", -5);
        rule("r<(s=o)>w", -8);
        rule("(r)(s)", -4);
        rule("(r))", -4);
        rule("1234", -4);
        rule("(((((r", -5);
        rule("r ", -2);
        rule("R", -1);
        rule("r;", -2);
        due("as it was", x.door(0, 6), 16);
    }

    @Says(promise = 5, text = "(its end, if it ends too early;")
    static void p05_endsTooEarly() {
        add("d01l9;hl8");
        x.hang(0, 0);
        creak("s*2", 16);
        rule("-", -2);
        rule("--", -3);
        rule("r+", -3);
        rule("r-", -3);
        rule("r*", -3);
        rule("r/", -3);
        rule("r<", -3);
        rule("r>", -3);
        rule("r=-", -4);
        rule("(", -2);
        rule("((((", -5);
        rule("(r", -3);
        rule("(12", -4);
        rule("(r<s", -5);
        rule("((r)", -5);
        rule("r+(s*(1+2)", -11);
        due("as it was", x.door(0, 6), 16);
    }

    @Says(promise = 5, text = "40, if it has more and the first 40 could go on or end).")
    static void p05_moreThan40() {
        add("d01l9;hl8");
        x.hang(0, 0);
        String forty = "-" + "0+".repeat(19) + "7";
        due("signs", forty.length(), 40);
        creak(forty, 7);
        rule(forty + "7", -41);
        rule(forty + "+", -41);
        rule(forty + "+7", -41);
        rule(forty + "?", -41);
        rule(forty + ")", -41);
        String open = "0+".repeat(20);
        rule(open, -41);
        rule(open + "1", -41);
        rule(open + ")", -41);
        rule("(" + "0+".repeat(19) + "7", -41);
        rule("(" + "0+".repeat(19) + "7)", -41);
        rule("-".repeat(40) + "1", -41);
        rule("-".repeat(39) + "1", 0);
        rule("0+".repeat(19) + "1)" + "+1", -40);
        rule("0+".repeat(19) + "12", 0);
        rule("0+".repeat(18) + "1234", -40);
        rule("0+".repeat(18) + "1234+", -40);
        rule(" " + forty, -1);
        rule("0+".repeat(18) + "+123+", -37);
        due("as it was", x.door(0, 6), 12);
    }

    // ---- 6, 7: door, hinge

    private static void someDoorsAndHinges() {
        fresh("d03l9;d70r1;d12l3;hl4*7;hb9*0;hl1;hr2*9");
        order("h0>0;h1>0;h2>2;o2*5;n3", 5);
        rule("s+o", 0);
    }

    @Says(promise = 6, text = {"Of a DOOR, what 0, 1: its ROOMS as told, 2: HAND (0 l, 1 r), 3: WEIGHT, 4: HINGES on it (bits)",
        "5: 2 if it is SHUT, 1 if it SWINGS, 0 if it LEANS, 6: CREAK."})
    static void p06_whatOfADoor() {
        someDoorsAndHinges();
        int[][] doors = {{0, 3, 0, 9, 3, 2, 13}, {7, 0, 1, 1, 0, 0, 0}, {1, 2, 0, 3, 4, 1, 3}};
        for (int d = 0; d < 3; d++) {
            for (int what = 0; what <= 6; what++) {
                due("door(" + d + ", " + what + ")", x.door(d, what), doors[d][what]);
            }
        }
    }

    @Says(promise = 6, text = "NoSuchElementException: none such, another what.")
    static void p06_noSuch() {
        due("door 0 of none", doorThrows(0, 0), true);
        someDoorsAndHinges();
        int[] others = {-1, 7, 8, 100, Integer.MIN_VALUE, Integer.MAX_VALUE};
        String before = state();
        for (int other : others) {
            due("door(0, " + other + ")", doorThrows(0, other), true);
            due("door(" + other + ", 0)", doorThrows(other, 0), true);
            due("door(" + other + ", " + other + ")", doorThrows(other, other), true);
        }
        for (int what = 0; what <= 6; what++) {
            due("door(3, " + what + ")", doorThrows(3, what), true);
        }
        same("what threw", before);
    }

    @Says(promise = 7, text = {"Of a HINGE, what 0: HAND (0 l, 1 r, 2 b), 1: STRENGTH, 2: RENT, 3: RUST, 4: OIL",
        "5: the DOOR (NONE: in THE FORGE), 6: HOLD."})
    static void p07_whatOfAHinge() {
        someDoorsAndHinges();
        int[][] hinges = {{0, 4, 7, 3, 0, 0, 3}, {2, 9, 0, 3, 0, 0, 8}, {0, 1, 1, 0, 2, 2, 1}, {1, 2, 9, 0, 0, -1, 2}};
        for (int h = 0; h < 4; h++) {
            for (int what = 0; what <= 6; what++) {
                due("hinge(" + h + ", " + what + ")", x.hinge(h, what), hinges[h][what]);
            }
        }
    }

    @Says(promise = 7, text = "NoSuchElementException: likewise.")
    static void p07_noSuch() {
        due("hinge 0 of none", hingeThrows(0, 0), true);
        someDoorsAndHinges();
        int[] others = {-1, 7, 8, 100, Integer.MIN_VALUE, Integer.MAX_VALUE};
        String before = state();
        for (int other : others) {
            due("hinge(0, " + other + ")", hingeThrows(0, other), true);
            due("hinge(" + other + ", 0)", hingeThrows(other, 0), true);
            due("hinge(" + other + ", " + other + ")", hingeThrows(other, other), true);
        }
        for (int what = 0; what <= 6; what++) {
            due("hinge(4, " + what + ")", hingeThrows(4, what), true);
        }
        same("what threw", before);
    }

    // ---- 8, 9: secret, sheet

    @Says(promise = 8, text = "SECRETS of a ROOM (1 .. 7) become v (0 .. 9): what they were.")
    static void p08_become() {
        for (int room = 1; room <= 7; room += 6) {
            for (int v = 0; v <= 9; v++) {
                due("secret(" + room + ", " + v + ")", x.secret(room, v), v == 0 ? 0 : v - 1);
            }
        }
        due("in all", x.count(5), 18);
        due("the same again", x.secret(7, 9), 9);
    }

    @Says(promise = 8, text = "Refused: others.")
    static void p08_others() {
        x.sheet(2, 7, 4, 0);
        x.shut();
        int[] rooms = {0, -1, 8, Integer.MIN_VALUE, Integer.MAX_VALUE};
        for (int room : rooms) {
            stays("secret of " + room, -1, () -> x.secret(room, 5));
        }
        int[] amounts = {-1, 10, Integer.MIN_VALUE, Integer.MAX_VALUE};
        for (int v : amounts) {
            stays("secret of 1", -1, () -> x.secret(1, v));
            stays("secret of 7", -1, () -> x.secret(7, v));
            stays("secret of 8", -1, () -> x.secret(8, v));
        }
    }

    /** What each room has, from room 1 on. */
    private static void secrets(int... wanted) {
        for (int room = 1; room <= 7; room++) {
            int v = x.secret(room, 0);
            x.secret(room, v);
            due("secrets of " + room, v, wanted[room - 1]);
        }
    }

    @Says(promise = 9, text = {"SECRETS of ROOMS 1 .. 7, as a sheet tells them:",
        "bytes (kind 0), shorts (1), ints (2) of n entries f, f + step, .."})
    static void p09_entries() {
        for (int kind = 0; kind <= 2; kind++) {
            due("seven", x.sheet(kind, 7, 1, 1), 28);
            secrets(1, 2, 3, 4, 5, 6, 7);
            due("down", x.sheet(kind, 7, 9, -1), 42);
            secrets(9, 8, 7, 6, 5, 4, 3);
            due("all alike", x.sheet(kind, 7, 2, 0), 14);
            secrets(2, 2, 2, 2, 2, 2, 2);
        }
    }

    @Says(promise = 9, text = "(of bytes, shorts the lowest bits, with their sign; put to 0 .. 9)")
    static void p09_lowestBits() {
        due("bytes", x.sheet(0, 7, 256 * 77 - 3, 2), 1 + 3 + 5 + 7 + 9);
        secrets(0, 0, 1, 3, 5, 7, 9);
        due("bytes below 0 are 0", x.sheet(0, 7, 126, 1), 18);
        secrets(9, 9, 0, 0, 0, 0, 0);
        due("a byte of 255, then 0 and 1", x.sheet(0, 3, 255, 1), 1);
        secrets(0, 0, 1, 0, 0, 0, 0);
        due("shorts of 256 are not 0", x.sheet(1, 2, 256, -250), 9 + 6);
        secrets(9, 6, 0, 0, 0, 0, 0);
        due("shorts", x.sheet(1, 7, 65536 * 5 - 2, 1), 1 + 2 + 3 + 4);
        secrets(0, 0, 0, 1, 2, 3, 4);
        due("shorts below 0 are 0", x.sheet(1, 3, 32767, 1), 9);
        secrets(9, 0, 0, 0, 0, 0, 0);
        due("ints of 65536 are not 0", x.sheet(2, 2, 65536, -65535), 9 + 1);
        secrets(9, 1, 0, 0, 0, 0, 0);
        due("ints below 0 are 0", x.sheet(2, 3, -1, 1), 1);
        secrets(0, 0, 1, 0, 0, 0, 0);
        due("10 is 9, 9 is 9", x.sheet(2, 3, 8, 1), 26);
        secrets(8, 9, 9, 0, 0, 0, 0);
        due("ints wrap around", x.sheet(2, 7, Integer.MAX_VALUE, Integer.MAX_VALUE), 9 * 4);
        secrets(9, 0, 9, 0, 9, 0, 9);
        due("from the least int down", x.sheet(2, 3, Integer.MIN_VALUE, -1), 18);
        secrets(0, 9, 9, 0, 0, 0, 0);
    }

    @Says(promise = 9, text = {"or a missing one (3): those behind it have 0: the sum of all.", "-3: missing (all 0)."})
    static void p09_missing() {
        x.sheet(2, 7, 4, 0);
        due("those behind have 0", x.sheet(0, 3, 5, 0), 15);
        secrets(5, 5, 5, 0, 0, 0, 0);
        due("none", x.sheet(1, 0, 5, 0), 0);
        secrets(0, 0, 0, 0, 0, 0, 0);
        due("six", x.sheet(2, 6, 5, 0), 30);
        secrets(5, 5, 5, 5, 5, 5, 0);
        due("missing", x.sheet(3, 0, 5, 0), -3);
        secrets(0, 0, 0, 0, 0, 0, 0);
        x.sheet(2, 7, 4, 0);
        due("missing, of 7", x.sheet(3, 7, 5, 0), -3);
        secrets(0, 0, 0, 0, 0, 0, 0);
        x.sheet(2, 7, 4, 0);
        due("missing, of -1", x.sheet(3, -1, 5, 0), -3);
        secrets(0, 0, 0, 0, 0, 0, 0);
    }

    @Says(promise = 9, text = "-2: n below 0 (of kinds 0 .. 2; nothing changes);")
    static void p09_below0() {
        x.sheet(2, 7, 4, 0);
        x.shut();
        for (int kind = 0; kind <= 2; kind++) {
            int k = kind;
            stays("-1", -2, () -> x.sheet(k, -1, 5, 1));
            stays("the least", -2, () -> x.sheet(k, Integer.MIN_VALUE, 5, 1));
        }
    }

    @Says(promise = 9, text = "NONE: another kind, n above 7 (these first).")
    static void p09_anotherKind() {
        x.sheet(2, 7, 4, 0);
        x.shut();
        int[] kinds = {-1, 4, Integer.MIN_VALUE, Integer.MAX_VALUE};
        for (int kind : kinds) {
            stays("kind " + kind, -1, () -> x.sheet(kind, 3, 5, 1));
            stays("kind " + kind + " ahead of n below 0", -1, () -> x.sheet(kind, -1, 5, 1));
        }
        for (int kind = 0; kind <= 3; kind++) {
            int k = kind;
            stays("n of 8, kind " + k, -1, () -> x.sheet(k, 8, 5, 1));
            stays("the most, kind " + k, -1, () -> x.sheet(k, Integer.MAX_VALUE, 5, 1));
        }
    }
}
