/** The terms, sentence by sentence. */
public final class TermsEdgeTest extends Asked {
    public static void main(String[] args) {
        Edges.run(TermsEdgeTest.class);
    }

    // ---- rooms, doors, hinges

    @Says(promise = 0, text = "ROOMS 0 .. 7 (0: the street)")
    static void terms_rooms() {
        house("d07l1;d70r1", 2);
        house("d08l1", -3);
        house("d80l1", -2);
        due("from the street", x.thief(0), 1 | 128);
        due("from the last", x.thief(7), 1 | 128);
        due("none such", x.thief(8), -1);
        due("none such", x.thief(-1), -1);
    }

    @Says(promise = 0, text = "SECRETS of each 0 .. 9 (at first 0; those of the street do not count)")
    static void terms_secrets() {
        for (int room = 1; room <= 7; room++) {
            due("at first", x.secret(room, 9), 0);
            due("the most", x.secret(room, 0), 9);
            due("the least", x.secret(room, 9), 0);
        }
        due("of the street", x.secret(0, 5), -1);
        due("in all", x.count(5), 63);
        due("in the street", x.thief(0), 1);
        row(0);
    }

    @Says(promise = 0, text = "DOORS 0 .. (at most 8)")
    static void terms_eightDoors() {
        add("d01l1;d12l2;d23l3;d34l4;d45l5;d56l6;d67l7;d07l8");
        for (int d = 0; d < 8; d++) {
            due("by numbers from 0 on", x.door(d, 3), d + 1);
        }
        due("none more", doorThrows(8, 3), true);
        house("d01r1", -1);
        due("doors", x.count(0), 8);
    }

    @Says(promise = 0, text = "between two ROOMS, HAND l or r, WEIGHT 1 .. 9.")
    static void terms_doors() {
        house("d12l1;d56r9", 2);
        due("a room", x.door(0, 0), 1);
        due("the other", x.door(0, 1), 2);
        due("l", x.door(0, 2), 0);
        due("r", x.door(1, 2), 1);
        due("the least", x.door(0, 3), 1);
        due("the most", x.door(1, 3), 9);
        house("d12b5", -4);
        house("d12l0", -5);
        house("d12l:", -5);
        house("d12l/", -5);
    }

    @Says(promise = 0, text = "HINGES 0 .. (at most 12)")
    static void terms_twelveHinges() {
        add("hl1;hl2;hl3;hl4;hl5;hl6;hl7;hl8;hl9;hl1;hl2;hl3");
        for (int h = 0; h < 12; h++) {
            due("by numbers from 0 on", x.hinge(h, 1), h % 9 + 1);
        }
        due("none more", hingeThrows(12, 1), true);
        house("hl1", -1);
        due("hinges", x.count(1), 12);
        due("all of them in the forge", x.count(4), 4095);
    }

    @Says(promise = 0, text = "HAND l, r or b (fits both), STRENGTH 1 .. 9, RENT 0 .. 9")
    static void terms_hinges() {
        add("d01l1;d02r1;hl1*0;hr9*9;hb5;hb5");
        due("l", x.hinge(0, 0), 0);
        due("r", x.hinge(1, 0), 1);
        due("b", x.hinge(2, 0), 2);
        due("fits one", x.hang(2, 0), 1);
        due("fits the other", x.hang(3, 1), 1);
        due("the least", x.hinge(0, 1), 1);
        due("the most", x.hinge(1, 1), 9);
        due("no rent", x.hinge(0, 2), 0);
        due("the most rent", x.hinge(1, 2), 9);
        house("hl0", -3);
        house("hx1", -2);
    }

    @Says(promise = 0, text = "RUST 0 .. 9 (at first 0)")
    static void terms_rust() {
        add("d01l1;hl9");
        due("at first", x.hinge(0, 3), 0);
        x.hang(0, 0);
        for (int k = 1; k <= 12; k++) {
            x.day();
            due("after " + k, x.hinge(0, 3), Math.min(9, k));
        }
    }

    @Says(promise = 0, text = "OIL 0 .. 9 (days it lasts; at first 0)")
    static void terms_oil() {
        add("d01l1;hl9");
        x.hang(0, 0);
        due("at first", x.hinge(0, 4), 0);
        due("the most", x.oil(0, 9), 9);
        for (int k = 1; k <= 9; k++) {
            x.day();
            due("left", x.hinge(0, 4), 9 - k);
            due("so long no rust", x.hinge(0, 3), 0);
        }
        x.day();
        due("none left", x.hinge(0, 4), 0);
        due("rust then", x.hinge(0, 3), 1);
    }

    @Says(promise = 0, text = "on a DOOR, or in THE FORGE (at first).")
    static void terms_forge() {
        add("d01l1;hl9;hl9");
        due("at first", x.hinge(0, 5), -1);
        due("both", x.count(4), 3);
        x.hang(0, 0);
        due("on a door", x.hinge(0, 5), 0);
        due("the other", x.count(4), 2);
        x.take(0);
        due("in the forge", x.hinge(0, 5), -1);
        due("both", x.count(4), 3);
    }

    /** A full house: doors 2 to 7 are shut by hinges 0 to 11; room 1 has two doors, of which one is open. */
    private static void fullHouse() {
        fresh("d01l1;d02l1;d03l1;d04l1;d05l1;d06l1;d07l1;d10r1");
        add("hb1*1;hb1*1;hb1*1;hb1*1;hb1*1;hb1*1;hb1*1;hb1*1;hb1*1;hb1*1;hb1*1;hb1*1");
        x.sheet(2, 7, 9, -1);
        order("h0>2;h1>2;h2>3;h3>3;h4>4;h5>4", 6);
        order("h6>5;h7>5;h8>6;h9>6;h10>7;h11>7", 6);
    }

    @Says(promise = 0, text = {"DOORS 0 .. (at most 8)", "HINGES 0 .. (at most 12)"})
    static void terms_fullHouseIsShut() {
        fullHouse();
        due("the last door", x.door(7, 4), 3 << 10);
        due("the last hinge", x.hinge(11, 5), 7);
        due("the forge", x.count(4), 0);
        due("shut", x.shut(), 6);
        row(252, 0, 3);
        due("thief", x.thief(0), 7);
        row(17);
        due("kept", x.kept(), 25);
        row(248);
        due("quiet(2)", x.quiet(2), 0);
        row(1);
        due("quiet(3)", x.quiet(3), -2);
        due("lasts(1)", x.lasts(1), 0);
        due("lasts(7)", x.lasts(7), 2);
        due("rent", x.rent(99), 1188);
        row(0, 0, 198, 198, 198, 198, 198, 198);
        due("rusts(0)", x.rusts(0), -3);
        due("rusts(7)", x.rusts(7), 2);
        due("wall(1)", x.wall(1), 2);
        row(1 | 128);
        due("guard(31)", x.guard(31), 6);
        row(126, 33);
        due("guard(42)", x.guard(42), 8);
        row(255, 42);
        due("guard(43)", x.guard(43), -2);
        due("risk", x.risk(19), 0);
        row(1, 1);
        due("stands", x.stands(), 19);
        x.heard(0);
        due("ways", x.ways(), 2);
        row(6, 0);
        due("been(1)", x.been(1), 6);
        due("sure", x.sure(), 0);
        row(3);
    }

    @Says(promise = 0, text = {"DOORS 0 .. (at most 8)", "HINGES 0 .. (at most 12)"})
    static void terms_fullHouseIsHung() {
        fullHouse();
        due("all of six", x.all(252), 0);
        row(0, 0, 3, 12, 48, 192, 768, 3072);
        due("all of eight", x.all(255), -2);
        due("most", x.most(), 6);
        row(63);
        due("best: 9 by two doors, 8, 7, 6 and 5", x.best(), 35);
        row(159, 3, 12, 48, 192, 768, 0, 0, 3072);
        due("cheap(35)", x.cheap(35), 12);
        row(159, 3, 12, 48, 192, 768, 0, 0, 3072);
        due("cheap(36)", x.cheap(36), -2);
        due("cheap(8)", x.cheap(8), 2);
        row(2, 0, 3, 0, 0, 0, 0, 0, 0);
        due("cheap(9)", x.cheap(9), 4);
        row(6, 0, 3, 12, 0, 0, 0, 0, 0);
        due("change", x.change(0), -3);
        due("next", x.next(), -2);
        due("spare: door 7 keeps nothing", x.spare(), 10);
        row(25);
        due("behind", x.behind(0, 0), 0);
        row(-1);
        due("bid", x.bid(11), -3);
        due("rings", x.rings(), 0);
        row(0, 0);
        x.take(11);
        due("next", x.next(), 11);
        row(0, 25);
        due("bid", x.bid(11), 0);
        row(1);
        due("behind", x.behind(0, 0), 1);
        row(1 << 11);
    }

    @Says(promise = 0, text = {"DOORS 0 .. (at most 8)", "HINGES 0 .. (at most 12)"})
    static void terms_fullHouseIsUndone() {
        fullHouse();
        x.keep(0);
        String before = unrowed();
        due("a day", x.day(), 12);
        row(0);
        due("another", x.day(), 12);
        row(252);
        due("a gale of 1", x.gale(1, 1), 0);
        due("all can fall in another", x.risk(2), 4095);
        due("stands", x.stands(), 1);
        due("oil", x.oil(11, 9), 9);
        due("take", x.take(11), 7);
        for (int k = 6; k >= 2; k--) {
            due("undo", x.undo(), k);
        }
        x.shut();
        same("what was undone", before);
        x.days(9);
        due("again", x.again(0), true);
        due("on door 7", x.door(7, 4), 3 << 10);
        due("rust of the last", x.hinge(11, 3), 0);
        due("till", x.count(3) + x.count(2), 0);
    }

    // ---- the house

    @Says(promise = 0, text = "THE HOUSE is a text of at most 76 signs")
    static void terms_76signs() {
        // Its lines of 3 and 5 signs and what is between make odd numbers: 75 is the longest that ends.
        String text = "d01l1;d12l1;d23l1;d34l1;d45l1;d56l1;d67l1;hl1;hl1;hl1;hl1;hl1;hl1*2;hl1*3";
        due("signs", text.length(), 73);
        house(text, 14);
        fresh();
        text = "d01l1;d12l1;d23l1;d34l1;d45l1;d56l1;d67l1;hl1;hl1;hl1;hl1;hl1*2;hl1*3;hl1*4";
        due("signs", text.length(), 75);
        house(text, 14);
        fresh();
        text += ";d01r1";
        due("signs", text.substring(0, 80).length(), 80);
        house(text.substring(0, 80), -77);
        due("nothing came", x.count(0) + x.count(1), 0);
    }

    @Says(promise = 0, text = "LINES with ; between")
    static void terms_lines() {
        house("d01l1;hl1", 2);
        house("d01l1hl1", -6);
        house("d01l1,hl1", -6);
        house(";d01l1", -1);
        house("d01l1;;hl1", -7);
        house("d01l1;", -7);
        house("hl1", 1);
    }

    @Says(promise = 0, text = "what they tell comes behind what there is:")
    static void terms_behind() {
        house("hl1;d01l1;hl2", 3);
        house("d02r3;hr4;d03l5", 3);
        due("door 0", x.door(0, 3), 1);
        due("door 1", x.door(1, 3), 3);
        due("door 2", x.door(2, 3), 5);
        due("hinge 0", x.hinge(0, 1), 1);
        due("hinge 1", x.hinge(1, 1), 2);
        due("hinge 2", x.hinge(2, 1), 4);
    }

    @Says(promise = 0, text = "d, two digits 0 .. 7 (ROOMS, unlike), l or r, a digit 1 .. 9 (WEIGHT): a DOOR;")
    static void terms_doorLine() {
        for (int a = 0; a <= 9; a++) {
            for (int b = 0; b <= 9; b++) {
                fresh();
                house("d" + a + b + "l5", a > 7 ? -2 : b > 7 || a == b ? -3 : 1);
            }
        }
        for (char c = 1; c < 256; c++) {
            fresh();
            house("d01" + c + "5", c == 'l' || c == 'r' ? 1 : -4);
            fresh();
            house("d01l" + c, c >= '1' && c <= '9' ? 1 : -5);
        }
    }

    @Says(promise = 0, text = "h, l, r or b, a digit 1 .. 9 (STRENGTH), perhaps * and a digit (RENT, else 1): a HINGE.")
    static void terms_hingeLine() {
        for (char c = 1; c < 256; c++) {
            fresh();
            house("h" + c + "5", c == 'l' || c == 'r' || c == 'b' ? 1 : -2);
            fresh();
            house("hl" + c, c >= '1' && c <= '9' ? 1 : -3);
            fresh();
            house("hl5*" + c, c >= '0' && c <= '9' ? 1 : -5);
        }
        fresh();
        house("hl5;hl5*0;hl5*9", 3);
        due("else", x.hinge(0, 2), 1);
        due("told", x.hinge(1, 2), 0);
        due("told", x.hinge(2, 2), 9);
    }

    // ---- on doors

    @Says(promise = 0, text = "A HINGE FITS a DOOR of its HAND, or any, if it is b.")
    static void terms_fits() {
        String hands = "lrb";
        for (int hinge = 0; hinge < 3; hinge++) {
            for (int door = 0; door < 2; door++) {
                fresh("d01" + hands.charAt(door) + "1;h" + hands.charAt(hinge) + "1");
                due(hands.charAt(hinge) + " on " + hands.charAt(door), x.hang(0, 0),
                    hinge == 2 || hinge == door ? 1 : -3);
            }
        }
    }

    @Says(promise = 0, text = "On a DOOR there are two at most, such as FIT.")
    static void terms_two() {
        add("d01l1;hl1;hb1;hl1;hr1");
        due("one", x.hang(0, 0), 1);
        due("such as does not fit", x.hang(3, 0), -3);
        due("two", x.hang(1, 0), 2);
        due("three", x.hang(2, 0), -4);
        due("on it", x.door(0, 4), 3);
    }

    @Says(promise = 0, text = "HOLD of a HINGE: STRENGTH less half of RUST (cut), 0 at least.")
    static void terms_hold() {
        add("d01l9;hl5;hl2");
        order("h0>0;h1>0", 2);
        int[] five = {5, 5, 4, 4, 3, 3, 2, 2, 1, 1, 1};
        int[] two = {2, 2, 1, 1, 0, 0, 0, 0, 0, 0, 0};
        for (int k = 0; k <= 10; k++) {
            due("5 after " + k, x.hinge(0, 6), five[k]);
            due("2 after " + k, x.hinge(1, 6), two[k]);
            x.day();
        }
    }

    @Says(promise = 0, text = "A DOOR is SHUT, if two are on it and their HOLDS together are its WEIGHT or more;")
    static void terms_shut() {
        add("d01l6;hl9;hl2;hl3;hl4");
        x.hang(0, 0);
        due("one that would hold it", x.door(0, 5), 1);
        x.take(0);
        order("h1>0;h2>0", 2);
        due("5 of 6", x.door(0, 5), 1);
        order("t2;h3>0", 2);
        due("6 of 6", x.door(0, 5), 2);
        order("t1;h2>0", 2);
        due("7 of 6", x.door(0, 5), 2);
        x.days(2);
        due("5 of 6 by rust", x.door(0, 5), 1);
        order("o2*9;o3*1", 2);
        due("oil takes no rust away", x.door(0, 5), 1);
    }

    @Says(promise = 0, text = "it SWINGS, if it is not SHUT, but one is on it, or two; it LEANS else.")
    static void terms_swings() {
        add("d01l9;hl1;hl1");
        due("none: it leans", x.door(0, 5), 0);
        x.hang(0, 0);
        due("one: it swings", x.door(0, 5), 1);
        x.hang(1, 0);
        due("two: it swings", x.door(0, 5), 1);
        x.days(9);
        due("two that hold nothing: it swings", x.door(0, 5), 1);
        order("t0;t1", 2);
        due("none: it leans", x.door(0, 5), 0);
    }

    // ---- the rule

    /** Door 0 of weight 9 with hinge 0 (strength 8, rust 2) and 1 (strength 7, oil 3), day 2. */
    private static void creaking() {
        fresh("d01l9;hl8;hl7;hr1");
        order("h0>0;n2;h1>0;o1*3", 4);
    }

    @Says(promise = 0, text = "THE RULE is a text of at most 40 signs (at first none: r).")
    static void terms_40signs() {
        creaking();
        due("none: r", x.door(0, 6), 2);
        creak("0+0+0+0+0+0+0+0+0+0+0+0+0+0+0+0+0+0+0+11", 22);
        rule("0+0+0+0+0+0+0+0+0+0+0+0+0+0+0+0+0+0+0+111", -41);
        due("as it was", x.door(0, 6), 22);
    }

    @Says(promise = 0, text = "EXPRESSION: < > = bind least (two; 1 or 0; not one behind the other)")
    static void terms_compared() {
        creaking();
        creak("2<3", 2);
        creak("3<3", 0);
        creak("4<3", 0);
        creak("4>3", 2);
        creak("3>3", 0);
        creak("2>3", 0);
        creak("3=3", 2);
        creak("3=2", 0);
        creak("2=3", 0);
        creak("1+1=2", 2);
        creak("2=1+1", 2);
        creak("5<2*3", 2);
        creak("0-9<1-9", 2);
        creak("-1<0", 2);
        rule("1<2<3", -4);
        rule("1=1>0", -4);
        rule("1+1<2+2=1", -8);
        rule("(1<2=1)", -5);
        rule("<1", -1);
        rule("1<", -3);
        creak("(3<3)+5", 10);
        creak("(3>3)+5", 10);
        creak("(3=2)+5", 10);
        creak("(2<3)+5", 12);
        creak("(3>2)+5", 12);
        creak("(3=3)+5", 12);
        creak("(1<2)=(3>2)", 2);
        creak("(2<3)+(3<4)*5", 12);
    }

    @Says(promise = 0, text = "then + - (from the left)")
    static void terms_sums() {
        creaking();
        creak("9-4-3", 4);
        creak("9-4+3", 16);
        creak("9-(4-3)", 16);
        creak("2+3*4", 28);
        creak("20-6/2", 34);
    }

    @Says(promise = 0, text = "then * / (from the left; by 0: 0; cut to 0)")
    static void terms_products() {
        creaking();
        creak("24/4/3", 4);
        creak("24/(4/3)", 48);
        creak("7/2*2", 12);
        creak("2*7/2", 14);
        creak("7/0+5", 10);
        creak("0/0+5", 10);
        creak("5-7/(3-3)", 10);
        creak("9+7/2", 24);
        creak("9+-7/2", 12);
        creak("9+7/-2", 12);
        creak("9+-7/-2", 24);
        creak("9-1/2", 18);
        creak("9+-1/2", 18);
    }

    @Says(promise = 0, text = "then - ahead of a thing (any many);")
    static void terms_minus() {
        creaking();
        creak("9+-2", 14);
        creak("9--2", 22);
        creak("9---2", 14);
        creak("----9", 18);
        creak("---9+20", 22);
        creak("9+-(2)", 14);
        creak("9--(2-5)", 12);
        creak("--s", 15);
        creak("-".repeat(38) + "7", 14);
        creak("-".repeat(39) + "7", 0);
        creak("-2*-3", 12);
        creak("2*--3", 12);
        rule("+2", -1);
        rule("2*+3", -3);
        rule("-", -2);
    }

    @Says(promise = 0, text = "things: a NUMBER of 1 to 3 digits")
    static void terms_numbers() {
        creaking();
        creak("7", 14);
        creak("07", 14);
        creak("007", 14);
        creak("42", 84);
        creak("999-989", 20);
        creak("000", 0);
        rule("/", -1);
        rule(":", -1);
        rule("1/:", -3);
        rule("1:", -2);
        rule("12:", -3);
        rule("123:", -4);
        rule("0007", -4);
        rule("1234", -4);
        rule("1+1234", -6);
        rule("12 3", -3);
    }

    @Says(promise = 0, text = "an EXPRESSION in ( ) (at most 4 in one another)")
    static void terms_brackets() {
        creaking();
        creak("(3)", 6);
        creak("((((3))))", 6);
        rule("(((((3)))))", -5);
        rule("(((((", -5);
        creak("((((3))))+((((4))))", 14);
        rule("((((3))+(((1)))))", -11);
        creak("(((3))+(((1))))", 8);
        rule("1+(2*(3-(4+(5-(6)))))", -15);
        rule("()", -2);
        rule("(3", -3);
        rule("3)", -2);
        rule("(3))", -4);
    }

    @Says(promise = 0, text = {"of a HINGE on a DOOR: r RUST, s STRENGTH, o OIL, w WEIGHT, n how many are on the DOOR",
        "t DAY, i the HINGE's number, d the DOOR's, x 1 if the DOOR is SHUT."})
    static void terms_things() {
        creaking();
        creak("r", 2);
        creak("s", 15);
        creak("o", 3);
        creak("w", 18);
        creak("n", 4);
        creak("t", 4);
        creak("i", 1);
        creak("d", 0);
        creak("x", 2);
        x.take(1);
        creak("n", 1);
        creak("x", 0);
        add("d12r5;hl1;hl1;hl1;hl1;hl1;hl1;hl1;hr3");
        x.hang(10, 1);
        rule("d", 0);
        due("d of door 1", x.door(1, 6), 1);
        rule("i", 0);
        due("i of hinge 10", x.door(1, 6), 10);
        rule("w*10+s", 0);
        due("w and s", x.door(1, 6), 53);
        for (char c = 0; c < 256; c++) {
            fresh();
            boolean thing = "rsowntidx0123456789".indexOf(c) >= 0;
            rule("" + c, thing ? 0 : c == '(' || c == '-' ? -2 : -1);
        }
    }

    @Says(promise = 0, text = "As ints, put to 0 .. 99.")
    static void terms_ints() {
        creaking();
        creak("99", 198);
        creak("100", 198);
        creak("999", 198);
        creak("0-1", 0);
        creak("98+i", 197);
        creak("i*3-1", 2);
        // 999 * 999 * 999 * 4 is 3988011996, as an int -306955300; 999 * 999 * 999 * 5 is 4985014995, as an int 690047699.
        creak("999*999*999*4", 0);
        creak("-(999*999*999*4)/999/999/4", 2 * 76);
        creak("999*999*999*5/999/999/9", 2 * 76);
    }

    @Says(promise = 0, text = "CREAK of a DOOR: the sum of what THE RULE tells of those on it (0 without).")
    static void terms_creak() {
        creaking();
        creak("s*13", 99 + 91);
        creak("s*9-63", 9);
        x.take(0);
        creak("s", 7);
        x.take(1);
        creak("s", 0);
        creak("50", 0);
        creak("d+w+t", 0);
    }

    // ---- days, thieves

    @Says(promise = 0, text = {"A DAY: each HINGE on a DOOR costs RENT;",
        "then, if it has OIL, that is 1 less, else RUST is 1 more (9 at most)."})
    static void terms_day() {
        add("d01l9;d02l9;hl5*3;hl5*4;hl5*9;hl5*0");
        order("h0>0;h1>1;h3>1;o1*1;o2*2", 5);
        due("3, 4 and 0", x.day(), 7);
        due("rust", x.hinge(0, 3), 1);
        due("oil is less", x.hinge(1, 4), 0);
        due("no rust", x.hinge(1, 3), 0);
        due("rust without rent", x.hinge(3, 3), 1);
        due("oil in the forge stays", x.hinge(2, 4), 2);
        due("no rust in the forge", x.hinge(2, 3), 0);
        due("the next day", x.day(), 7);
        due("rust", x.hinge(1, 3), 1);
        due("no oil below 0", x.hinge(1, 4), 0);
        x.days(6);
        due("rust", x.hinge(0, 3), 8);
        x.day();
        due("rust", x.hinge(0, 3), 9);
        x.day();
        due("9 at most", x.hinge(0, 3), 9);
    }

    @Says(promise = 0, text = "THE TILL has what was paid (at first 0), DAYS are counted (at first 0).")
    static void terms_till() {
        add("d01l9;hl5*3");
        due("the till at first", x.count(3), 0);
        due("days at first", x.count(2), 0);
        x.day();
        due("nothing hung", x.count(3), 0);
        due("a day", x.count(2), 1);
        x.hang(0, 0);
        x.days(60);
        due("60 times 3", x.count(3), 180);
        due("days", x.count(2), 61);
        order("n9;n", 2);
        due("10 times 3", x.count(3), 210);
        due("days", x.count(2), 71);
    }

    @Says(promise = 0, text = "A THIEF goes from ROOM to ROOM through DOORS that are not SHUT.")
    static void terms_thief() {
        add("d01l9;d21l2;d23l9;d45l9;hl1;hl1");
        due("either way", x.thief(0), 1 | 2 | 4 | 8);
        due("and back", x.thief(3), 1 | 2 | 4 | 8);
        due("elsewhere", x.thief(5), 16 | 32);
        due("no door", x.thief(6), 64);
        order("h0>1", 1);
        due("one that swings", x.thief(0), 1 | 2 | 4 | 8);
        order("h1>1", 1);
        due("one that is shut", x.thief(0), 1 | 2);
        due("from behind", x.thief(3), 4 | 8);
    }

    @Says(promise = 0, text = "SECRETS of a ROOM are KEPT, if no THIEF gets there from the street.")
    static void terms_kept() {
        add("d01l2;d12l9;d34l9;hl1;hl1");
        x.sheet(2, 7, 1, 1);
        due("3 to 7", x.kept(), 3 + 4 + 5 + 6 + 7);
        order("h0>0;h1>0", 2);
        due("all", x.kept(), 28);
        x.days(2);
        due("3 to 7", x.kept(), 3 + 4 + 5 + 6 + 7);
    }

    // ---- hangings, rows, what is refused

    @Says(promise = 0, text = {"A HANGING tells for each DOOR, which of HINGES are on it",
        "(a set as bits, two at most, all such as FIT, none on two DOORS)."})
    static void terms_hanging() {
        add("d01l2;d02r2;d03l9;hl1;hr1;hr1;hl1;hb9");
        due("all of 0 and 1", x.all(3), 1);
        row(1 | 8, 2 | 4, 0);
        due("all of 1 and 2", x.all(6), 1);
        row(0, 2 | 4, 1 | 16);
        due("0 and 2 would need four, three fit", x.all(5), -2);
    }

    @Says(promise = 0, text = "ROW: numbers told last by a call that says so.")
    static void terms_row() {
        add("d01l2;hl1");
        due("none at first", x.count(8), 0);
        x.shut();
        row(0, 0, 1);
        x.hang(0, 0);
        x.stands();
        x.lasts(1);
        x.gale(1, 1);
        x.been(0);
        x.undo();
        x.heard(3);
        x.forget();
        x.keep(0);
        x.secret(1, 4);
        rule("s", 0);
        house("hl2", 1);
        x.rusts(0);
        row(0, 0, 1);
        x.thief(0);
        row(4);
    }

    @Says(promise = 0, text = "Rows are compared from the first number on. Sets are bits.")
    static void terms_compared_rows() {
        add("d01l2;d02l2;hl1;hl1;hl1;hl1");
        due("the first door has the least", x.all(3), 0);
        row(3, 12);
        add("d30l9;d34l9;d14l9");
        due("two ways of as many doors", x.quiet(4), 0);
        row(0, 4);
    }

    @Says(promise = 0, text = "Refused calls answer NONE, or false, and change nothing but THE TEXT, which a call that reads it empties.")
    static void terms_refused() {
        add("d01l2;d12r9;hl1;hl1*4;hr3");
        x.sheet(2, 7, 1, 1);
        order("h0>0;h2>1;o0*4;n2", 4);
        x.heard(2);
        x.keep(0);
        x.shut();
        stays("secret", -1, () -> x.secret(8, 1));
        stays("sheet", -1, () -> x.sheet(0, 8, 1, 1));
        stays("hang", -1, () -> x.hang(3, 0));
        stays("take", -1, () -> x.take(3));
        stays("oil", -1, () -> x.oil(0, 10));
        refused("bend", () -> x.bend(3));
        stays("days", -1, () -> x.days(61));
        stays("gale", -1, () -> x.gale(1, 20));
        stays("thief", -1, () -> x.thief(8));
        stays("quiet", -1, () -> x.quiet(8));
        stays("lasts", -1, () -> x.lasts(0));
        stays("rent", -1, () -> x.rent(100));
        stays("rusts", -1, () -> x.rusts(2));
        stays("wall", -1, () -> x.wall(0));
        stays("guard", -1, () -> x.guard(64));
        stays("all", -1, () -> x.all(4));
        stays("cheap", -1, () -> x.cheap(64));
        stays("change", -1, () -> x.change(64));
        stays("risk", -1, () -> x.risk(20));
        stays("heard", -1, () -> x.heard(199));
        stays("been", -1, () -> x.been(2));
        stays("behind", -1, () -> x.behind(2, 0));
        stays("bid", -1, () -> x.bid(3));
        refused("keep", () -> x.keep(3));
        refused("again", () -> x.again(1));
        refused("end", () -> x.end(81));
        text("hl");
        stays("house", -3, () -> x.house());
        due("its text", x.count(9), 0);
        text("r+");
        stays("rule", -3, () -> x.rule());
        due("its text", x.count(9), 0);
        text("h0");
        stays("order", -3, () -> x.order());
        due("its text", x.count(9), 0);
        text("hl1");
        x.hang(9, 9);
        refused("end", () -> x.end(4));
        due("a text that is not read", x.count(9), 3);
    }
}
