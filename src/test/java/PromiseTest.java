import java.util.TreeSet;

/** Each promise of the document by its number: ordinary inputs, the edges that it names, and wrong inputs. */
public final class PromiseTest extends Asked {
    private static final TreeSet<Integer> seen = new TreeSet<>();

    public static void main(String[] args) {
        house();
        letAndHung();
        undone();
        whatIsShut();
        hangings();
        gales();
        creaks();
        bidding();
        kept();
        for (int n = 1; n <= 48; n++) {
            if (!seen.contains(n)) {
                tellWrong("promise " + n + " has no test");
            }
        }
        tellResult("PromiseTest");
    }

    private static void promise(int n) {
        about = "promise " + n;
        seen.add(n);
    }

    // ---- the house

    private static void house() {
        promise(1);
        fresh();
        for (int what = 0; what <= 9; what++) {
            due("count(" + what + ")", x.count(what), 0);
        }
        due("row(0) throws", rowThrows(0), true);

        promise(2);
        fresh();
        for (int k = 1; k <= 20; k++) {
            due("sign", x.sign(0x64303172), 4 * k);
        }
        due("sign", x.sign(0), -1);
        due("count(9)", x.count(9), 80);
        due("end", x.end(77), true);
        due("sign", x.sign(0), -1);
        due("count(9)", x.count(9), 77);
        due("end", x.end(76), true);
        due("sign", x.sign(0), 80);
        fresh();
        x.sign('d' << 24 | '0' << 16 | '1' << 8 | 'r');
        x.sign('9' << 24 | 0xff << 16);
        x.end(5);
        due("house, highest byte first", x.house(), 1);
        x.sign(0xE4000000);
        due("a sign above 127", x.house(), -1);

        promise(3);
        fresh();
        due("end(0)", x.end(0), true);
        due("end(1)", x.end(1), false);
        due("end(-1)", x.end(-1), false);
        x.sign(0x68723568);
        due("end(5)", x.end(5), false);
        due("end(4)", x.end(4), true);
        due("end(3)", x.end(3), true);
        due("end(4)", x.end(4), false);
        due("count(9)", x.count(9), 3);
        due("house", x.house(), 1);
        due("strength", x.hinge(0, 1), 5);

        houseTexts();
        ruleTexts();
        ruleValues();

        promise(6);
        fresh("d03l9;d70r1;hl4;hb9*0;hl1");
        x.hang(0, 0);
        due("rooms", x.door(0, 0), 0);
        due("rooms", x.door(0, 1), 3);
        due("rooms as told", x.door(1, 0), 7);
        due("rooms as told", x.door(1, 1), 0);
        due("hand", x.door(0, 2), 0);
        due("hand", x.door(1, 2), 1);
        due("weight", x.door(0, 3), 9);
        due("hinges", x.door(0, 4), 1);
        due("it swings", x.door(0, 5), 1);
        due("it leans", x.door(1, 5), 0);
        x.hang(2, 0);
        due("4 and 1 do not hold 9", x.door(0, 5), 1);
        x.take(2);
        x.hang(1, 0);
        due("it is shut", x.door(0, 5), 2);
        due("hinges", x.door(0, 4), 3);
        x.days(3);
        due("creak", x.door(0, 6), 6);
        due("none on it: creak", x.door(1, 6), 0);
        for (int what : new int[] {-1, 7, 100, Integer.MIN_VALUE, Integer.MAX_VALUE}) {
            due("door(0, " + what + ") throws", doorThrows(0, what), true);
            due("door(" + what + ", 0) throws", doorThrows(what, 0), true);
        }
        due("door(2, 0) throws", doorThrows(2, 0), true);

        promise(7);
        due("hand", x.hinge(0, 0), 0);
        due("hand", x.hinge(1, 0), 2);
        due("strength", x.hinge(1, 1), 9);
        due("rent", x.hinge(1, 2), 0);
        due("rent else", x.hinge(0, 2), 1);
        due("rust", x.hinge(0, 3), 3);
        due("oil", x.hinge(0, 4), 0);
        due("door", x.hinge(0, 5), 0);
        due("in the forge", x.hinge(2, 5), HingesOnHire.NONE);
        due("hold, 3 by 2 cut", x.hinge(0, 6), 3);
        x.hang(2, 1);
        x.bend(2);
        x.hang(2, 1);
        x.days(9);
        due("rust is 9 at most", x.hinge(2, 3), 9);
        due("hold is 0 at least", x.hinge(2, 6), 0);
        due("hand", x.hinge(2, 0), 2);
        for (int what : new int[] {-1, 7, 100, Integer.MIN_VALUE, Integer.MAX_VALUE}) {
            due("hinge(0, " + what + ") throws", hingeThrows(0, what), true);
            due("hinge(" + what + ", 0) throws", hingeThrows(what, 0), true);
        }
        due("hinge(3, 0) throws", hingeThrows(3, 0), true);

        promise(8);
        fresh();
        due("secret(7, 9)", x.secret(7, 9), 0);
        due("secret(7, 0)", x.secret(7, 0), 9);
        due("secret(1, 4)", x.secret(1, 4), 0);
        due("secret(0, 4)", x.secret(0, 4), -1);
        due("secret(8, 4)", x.secret(8, 4), -1);
        due("secret(-1, 4)", x.secret(-1, 4), -1);
        due("secret(1, -1)", x.secret(1, -1), -1);
        due("secret(1, 10)", x.secret(1, 10), -1);
        due("count(5)", x.count(5), 4);

        sheets();
    }

    private static void houseTexts() {
        promise(4);
        fresh();
        house("", 0);
        house("d01l1", 1);
        house("d10r9;hl1;hr9*0;hb5*9", 4);
        due("doors", x.count(0), 2);
        due("hinges", x.count(1), 3);
        due("rent", x.hinge(1, 2), 0);
        due("rent", x.hinge(2, 2), 9);
        house(";", -1);
        house("x", -1);
        house("D01l1", -1);
        house("d", -2);
        house("d8", -2);
        house("d0", -3);
        house("d08", -3);
        house("d00l1", -3);
        house("d33l1", -3);
        house("d77", -3);
        house("d01", -4);
        house("d01b1", -4);
        house("d01l", -5);
        house("d01l0", -5);
        house("d01l5*", -6);
        house("d01l55", -6);
        house("h", -2);
        house("hx", -2);
        house("hl", -3);
        house("hl0", -3);
        house("hl5*", -5);
        house("hl5*x", -5);
        house("hl5*55", -6);
        house("hl55", -4);
        house("hl5;", -5);
        house("hl5;;", -5);
        house("hl5;d01l1;hr", -13);
        house(" hl5", -1);
        due("nothing of it comes", x.count(0) * 100 + x.count(1), 203);

        fresh("d01l1;d12l1;d23l1;d34l1;d45l1;d56l1;d67l1");
        house("d02r1;d03r1", -7);
        due("doors", x.count(0), 7);
        house("d02r1", 1);
        house("dx", -1);
        house("d", -1);
        house("hl1;hl1;hl1;hl1;hl1;hl1;hl1;hl1;hl1;hl1;hl1", 11);
        house("hl1;hl1", -5);
        house("hl1", 1);
        house("h", -1);
        house("", 0);
        due("doors and hinges", x.count(0) * 100 + x.count(1), 812);

        fresh();
        String twelve = "hl1*1;hl1*1;hl1*1;hl1*1;hl1*1;hl1*1;hl1*1;hl1*1;hl1*1;hl1*1;hl1*1;hl1*1;";
        house(twelve + "d01l", -77);
        house(twelve + "d01l1", -77);
        house(twelve + "x", -73);
        house(twelve.substring(4) + "d12l9;hb", -1);
        house(twelve.substring(6) + "d01l9;hb", -75);
        house(twelve.substring(18) + "d01l9;d01l9;d01l9;d01l9", -77);
        house(twelve.substring(18) + "d01l9;d01l9;d01l9;hb9", 13);
    }

    private static void ruleTexts() {
        promise(5);
        fresh();
        rule("", 0);
        rule("r", 0);
        rule("rsowntidx", -2);
        rule("rr", -2);
        rule("1", 0);
        rule("999", 0);
        rule("000", 0);
        rule("1000", -4);
        rule("-", -2);
        rule("----r", 0);
        rule("r-", -3);
        rule("r--r", 0);
        rule("+r", -1);
        rule("r+-r", 0);
        rule("r-+r", -3);
        rule("r*/r", -3);
        rule("r<s", 0);
        rule("r<s>o", -4);
        rule("r<s+1=o", -6);
        rule("(r<s)>o", 0);
        rule("r<(s>o)=1", -8);
        rule("r<(s>o=1)", -7);
        rule("r==s", -3);
        rule("r<", -3);
        rule("r<<s", -3);
        rule("r*", -3);
        rule("r*)", -3);
        rule("r+(s*", -6);
        rule("(r<", -4);
        rule("-(", -3);
        rule("(", -2);
        rule("r>=s", -3);
        rule("((((r))))", 0);
        rule("(((((r)))))", -5);
        rule("((((r))))+((((s))))", 0);
        rule("()", -2);
        rule("(r", -3);
        rule("r)", -2);
        rule("(r))", -4);
        rule("r s", -2);
        rule("2(r)", -2);
        rule("(r)2", -4);
        rule("r2", -2);
        rule("2r", -2);
        rule("a", -1);
        rule("R", -1);
        String forty = "r+r+r+r+r+r+r+r+r+r+r+r+r+r+r+r+r+r+r+rr";
        rule(forty, -40);
        String thirtyNine = forty.substring(0, 39);
        rule(thirtyNine + "+", -41);
        rule(thirtyNine + "+r", -41);
        rule(thirtyNine + "+?", -41);
        rule(thirtyNine + ")", -40);
        rule("-" + thirtyNine, 0);
        rule("-" + thirtyNine + "+", -41);
        rule("-" + thirtyNine + "?", -41);
        rule("-".repeat(40), -41);
        rule("-".repeat(39) + "r", 0);
        rule("(" + thirtyNine, -41);
    }

    private static void ruleValues() {
        promise(5);
        fresh("d01l9;d12r4;hl8;hl7;hr3;hb2*5");
        x.hang(0, 0);
        x.oil(0, 4);
        x.days(6);
        due("none: r", x.door(0, 6), 2);
        creak("s", 8);
        creak("r", 2);
        creak("o", 0);
        creak("w", 9);
        creak("n", 1);
        creak("t", 6);
        creak("i", 0);
        creak("d", 0);
        creak("x", 0);
        x.hang(1, 0);
        x.oil(1, 3);
        creak("s", 15);
        creak("o", 3);
        creak("n", 4);
        creak("i", 1);
        creak("x", 2);
        creak("i+5", 11);
        creak("999", 198);
        creak("0-5", 0);
        creak("-5+60*i", 55);
        creak("99+i", 198);
        creak("100-i*2", 197);
        creak("7-2-1", 8);
        creak("7-(2-1)", 12);
        creak("100/7/2", 14);
        creak("100/(7/2)", 66);
        creak("2*7/3", 8);
        creak("7/3*2", 8);
        creak("-7/2+9", 12);
        creak("9+7/-2", 12);
        creak("9--7", 32);
        creak("9---7", 4);
        creak("-2*-3", 12);
        creak("5/0+3", 6);
        creak("5/(r-r)", 0);
        creak("2+3*4", 28);
        creak("1+2<4", 2);
        creak("4<1+2", 0);
        creak("3<3", 0);
        creak("3>3", 0);
        creak("4>3", 2);
        creak("3=3", 2);
        creak("3=4", 0);
        creak("(s>7)*9", 9);
        creak("s=8", 1);
        creak("-(s>7)+1", 1);
        rule("999*999*999*999*999/999", 0);
        int product = 999 * 999 * 999 * 999 * 999 / 999;
        due("as ints", x.door(0, 6), 2 * Math.max(0, Math.min(99, product)));
        int wrapped = 999 * 999 * 999 * 5;
        creak("999*999*999*5/999/999", 2 * Math.max(0, Math.min(99, wrapped / 999 / 999)));
        rule("999999", -4);
        due("a rule that can't stand changes nothing", x.door(0, 6),
            2 * Math.max(0, Math.min(99, wrapped / 999 / 999)));
        creak("", 2);
        x.hang(2, 1);
        rule("d*10+i", 0);
        due("creak of another door", x.door(1, 6), 12);
    }

    private static void sheets() {
        promise(9);
        fresh();
        due("sheet", x.sheet(0, 7, 1, 1), 28);
        due("secret 7", x.secret(7, 7), 7);
        due("those behind have 0", x.sheet(2, 3, 9, -1), 24);
        due("secret 4", x.secret(4, 0), 0);
        due("n of 0", x.sheet(1, 0, 9, 9), 0);
        due("count(5)", x.count(5), 0);
        due("put to 0 .. 9", x.sheet(2, 7, -2, 4), 2 + 6 + 9 + 9 + 9 + 9);
        due("bytes with their sign", x.sheet(0, 2, 255, 6), 5);
        due("secret 1", x.secret(1, 0), 0);
        due("secret 2", x.secret(2, 0), 5);
        due("a byte of 256 + 3", x.sheet(0, 1, 259, 0), 3);
        due("a byte of 128", x.sheet(0, 1, 128, 0), 0);
        due("a byte of 127", x.sheet(0, 1, 127, 0), 9);
        due("a short of 259", x.sheet(1, 1, 259, 0), 9);
        due("a short of 65536 + 3", x.sheet(1, 1, 65539, 0), 3);
        due("a short of 32768", x.sheet(1, 1, 32768, 0), 0);
        due("an int of 65539", x.sheet(2, 1, 65539, 0), 9);
        due("ints wrap", x.sheet(2, 3, Integer.MAX_VALUE, 1), 9);
        due("ints wrap", x.sheet(2, 3, Integer.MAX_VALUE, 4), 9 + 7 - 7);
        due("sheet", x.sheet(2, 7, 3, 0), 21);
        due("n below 0", x.sheet(0, -1, 1, 1), -2);
        due("n below 0", x.sheet(2, Integer.MIN_VALUE, 1, 1), -2);
        due("n above 7", x.sheet(0, 8, 1, 1), -1);
        due("n above 7 of a missing one", x.sheet(3, 8, 1, 1), -1);
        due("another kind", x.sheet(4, 1, 1, 1), -1);
        due("another kind", x.sheet(-1, -1, 1, 1), -1);
        due("nothing changed", x.count(5), 21);
        due("missing", x.sheet(3, 7, 1, 1), -3);
        due("all are 0", x.count(5), 0);
        x.secret(2, 2);
        due("missing", x.sheet(3, -5, 1, 1), -3);
        due("all are 0", x.count(5), 0);
    }

    // ---- hung and let

    private static void letAndHung() {
        promise(10);
        fresh("d01l5;d02r5;hl3;hr3;hb3;hl1;hl1");
        due("hang(-1, 0)", x.hang(-1, 0), -1);
        due("hang(5, 0)", x.hang(5, 0), -1);
        due("hang(0, -1)", x.hang(0, -1), -1);
        due("hang(0, 2)", x.hang(0, 2), -1);
        due("hang(0, 1)", x.hang(0, 1), -3);
        due("hang(0, 0)", x.hang(0, 0), 1);
        due("hang(0, 0) again", x.hang(0, 0), -2);
        due("on a door comes ahead of does not fit", x.hang(0, 1), -2);
        due("hang(2, 0)", x.hang(2, 0), 2);
        due("hang(3, 0)", x.hang(3, 0), -4);
        due("does not fit comes ahead of two are there", x.hang(1, 0), -3);
        due("hang(1, 1)", x.hang(1, 1), 1);
        due("on door 0", x.door(0, 4), 5);
        due("hinge 2", x.hinge(2, 5), 0);

        promise(11);
        due("take(2)", x.take(2), 0);
        due("take(2)", x.take(2), -2);
        due("take(1)", x.take(1), 1);
        due("take(5)", x.take(5), -1);
        due("take(-1)", x.take(-1), -1);
        due("on door 0", x.door(0, 4), 1);
        due("hinge 2", x.hinge(2, 5), -1);

        promise(12);
        due("oil(0, 3)", x.oil(0, 3), 3);
        due("oil(0, 2)", x.oil(0, 2), 3);
        due("oil(0, 9)", x.oil(0, 9), 9);
        due("oil(0, 0)", x.oil(0, 0), -1);
        due("oil(0, 10)", x.oil(0, 10), -1);
        due("oil(5, 1)", x.oil(5, 1), -1);
        due("oil(-1, 1)", x.oil(-1, 1), -1);
        due("in the forge too", x.oil(2, 1), 1);

        promise(13);
        due("bend(0)", x.bend(0), true);
        due("bend(0)", x.bend(0), false);
        due("bend(2)", x.bend(2), false);
        due("bend(5)", x.bend(5), false);
        due("bend(-1)", x.bend(-1), false);
        due("bend(3)", x.bend(3), true);
        due("it fits both", x.hang(3, 1), 1);
        due("hand", x.hinge(0, 0), 2);

        daysAndGales();
        orders();
    }

    private static void daysAndGales() {
        promise(14);
        fresh("d01l5;d02r9;hl3*4;hl3*2;hr9*9;hr8");
        x.hang(0, 0);
        x.hang(1, 0);
        x.hang(2, 1);
        x.oil(0, 1);
        x.oil(3, 5);
        due("day", x.day(), 15);
        row(0);
        due("oil", x.hinge(0, 4), 0);
        due("no rust by oil", x.hinge(0, 3), 0);
        due("rust", x.hinge(1, 3), 1);
        due("none in the forge", x.hinge(3, 3), 0);
        due("oil stays in the forge", x.hinge(3, 4), 5);
        due("day", x.day(), 15);
        row(0);
        due("rust", x.hinge(0, 3), 1);
        due("hold", x.hinge(1, 6), 2);
        due("day", x.day(), 15);
        row(1);
        due("till", x.count(3), 45);
        due("days", x.count(2), 3);

        promise(15);
        fresh("d01l5;d02r9;hl3*4;hl3*2;hr9*9;hr8*0");
        order("h0>0;h1>0;h2>1;h3>1", 4);
        due("days(0)", x.days(0), 0);
        row(0);
        due("days", x.count(2), 0);
        due("days(5)", x.days(5), 75);
        row(1);
        due("days(60)", x.days(60), 900);
        row(0);
        due("rust", x.hinge(2, 3), 9);
        due("hold", x.hinge(2, 6), 5);
        due("days(61)", x.days(61), -1);
        due("days(-1)", x.days(-1), -1);
        due("days", x.count(2), 65);
        due("till", x.count(3), 975);

        promise(16);
        fresh("d01l9;d02l3;d03l9;hl1;hl2;hl3;hl1;hl2;hl9");
        order("h0>0;h1>0;h2>1;h5>1;h4>2", 5);
        int fallen = 0;
        int r = 1;
        for (int h : new int[] {0, 1, 4}) {
            r = r * 1103515245 + 12345;
            int draw = (int) ((r & 0xffffffffL) / 65536 % 5);
            fallen |= draw > x.hinge(h, 6) ? 1 << h : 0;
        }
        // The draws are 16838, 38526 and 10113: 3, 1 and 3 of 5.
        due("fallen as reckoned by hand", fallen, 17);
        due("gale(1, 5)", x.gale(1, 5), fallen);
        for (int h : new int[] {0, 1, 4}) {
            boolean fell = (fallen >> h & 1) == 1;
            due("where " + h, x.hinge(h, 5), fell ? -1 : h == 4 ? 2 : 0);
            due("rust of " + h, x.hinge(h, 3), fell ? 2 : 0);
        }
        due("a shut door stands", x.door(1, 4), 36);
        due("no rust there", x.hinge(2, 3), 0);
        due("gale of 1", x.gale(77, 1), 0);
        due("gale(1, 0)", x.gale(1, 0), -1);
        due("gale(1, 20)", x.gale(1, 20), -1);
        due("gale(1, -5)", x.gale(1, -5), -1);
        due("gale(1, min)", x.gale(1, Integer.MIN_VALUE), -1);
        for (int seed = -20; seed < 20; seed++) {
            galeOfOne(seed * 123456789, 19);
        }
    }

    private static void galeOfOne(int seed, int g) {
        fresh("d01l9;hl4");
        x.hang(0, 0);
        x.days(8);
        int r = seed * 1103515245 + 12345;
        int draw = (int) ((r & 0xffffffffL) / 65536 % g);
        boolean falls = draw > 0;
        due("gale(" + seed + ", " + g + ")", x.gale(seed, g), falls ? 1 : 0);
        due("rust is 9 at most", x.hinge(0, 3), falls ? 9 : 8);
        due("it is in the forge", x.hinge(0, 5), falls ? -1 : 0);
    }

    private static void orders() {
        promise(17);
        fresh("d01l5;d02r9;hl3*4;hl3*2;hr9*9;hr8*0;hl1;hl1;hl1;hl1;hl1;hl1;hl1;hl1");
        order("", 0);
        row(0, 0);
        order("h0>0;h01>0;n2;o1*3;t00", 5);
        row(0, 12);
        due("on door 0", x.door(0, 4), 2);
        due("oil", x.hinge(1, 4), 3);
        due("days", x.count(2), 2);
        order("n;h0>1;n", 1);
        row(1, 2);
        due("does not fit", x.hinge(0, 5), -1);
        order("t0;n", 0);
        row(1, 0);
        due("nothing was done", x.count(2), 3);
        order("h11>0", 1);
        row(0, 0);
        order("h10>0", 0);
        row(1, 0);
        order("t99", 0);
        row(1, 0);
        order("o0*0", 0);
        row(1, 0);
        order("h2>9", 0);
        row(1, 0);
        order("n9", 1);
        row(0, 27);
        order("", 0);
        row(0, 0);
        due("nothing of the last order is done", x.count(2), 12);
        order("n9", 1);
        row(0, 27);
        order("h2>1;n0", -7);
        due("nothing is done then", x.hinge(2, 5), -1);
        row(0, 27);
        order("x", -1);
        order(";", -1);
        order("n;", -3);
        order("n;;", -3);
        order("n11", -3);
        order("h", -2);
        order("h>", -2);
        order("h1", -3);
        order("h1*", -3);
        order("h12", -4);
        order("h123", -4);
        order("h12>", -5);
        order("h12>x", -5);
        order("h12>12", -6);
        order("t", -2);
        order("tx", -2);
        order("t123", -4);
        order("t1>", -3);
        order("o", -2);
        order("o1>", -3);
        order("o1*", -4);
        order("o1*n", -4);
        order("o1*12", -5);
        order("n n", -2);
        String thirty = "n;".repeat(30);
        order(thirty.substring(0, 59), 30);
        row(0, 90);
        order(thirty, -61);
        order(thirty + "n", -61);
        order(thirty + "x", -61);
        order(thirty.substring(0, 59) + "9", 30);
        order(thirty.substring(0, 59) + "9;", -61);
        order(thirty.substring(0, 59) + "x", -60);
    }

    private static void undone() {
        promise(18);
        fresh("d01l5;d02r9;hl3*4;hl3*2;hr9*9");
        due("none", x.undo(), -1);
        undoneOneByOne();
        fresh("d01l5;d02r9;hl3*4;hl3*2;hr9*9");
        due("none", x.undo(), -1);
        x.hang(0, 0);
        x.hang(0, 0);
        x.take(1);
        x.oil(0, 0);
        x.bend(9);
        x.days(0);
        x.days(-1);
        x.gale(1, 0);
        order("t1", 0);
        order("", 0);
        order("x", -1);
        due("only what was not refused", x.count(6), 1);
        x.hang(1, 0);
        x.oil(0, 4);
        x.oil(0, 2);
        x.bend(0);
        x.days(7);
        order("t0;n3;t0", 2);
        x.gale(5, 19);
        due("count(6)", x.count(6), 8);
        due("undo", x.undo(), 7);
        due("undo the order as one", x.undo(), 6);
        due("on door 0", x.door(0, 4), 3);
        due("days", x.count(2), 7);
        due("till", x.count(3), 42);
        due("rust", x.hinge(0, 3), 3);
        due("undo days(7)", x.undo(), 5);
        due("oil", x.hinge(0, 4), 4);
        due("rust", x.hinge(0, 3), 0);
        due("till", x.count(3), 0);
        due("days", x.count(2), 0);
        due("hand", x.hinge(0, 0), 2);
        due("undo bend", x.undo(), 4);
        due("hand", x.hinge(0, 0), 0);
        due("undo oil of less", x.undo(), 3);
        due("oil", x.hinge(0, 4), 4);
        due("undo oil", x.undo(), 2);
        due("oil", x.hinge(0, 4), 0);
        due("undo hang", x.undo(), 1);
        due("undo hang", x.undo(), 0);
        due("on door 0", x.door(0, 4), 0);
        due("none", x.undo(), -1);
        for (int k = 1; k <= 20; k++) {
            x.day();
            due("count(6)", x.count(6), Math.min(15, k));
        }
        for (int k = 14; k >= 0; k--) {
            due("undo", x.undo(), k);
        }
        due("none", x.undo(), -1);
        due("days", x.count(2), 5);
        x.day();
        house("", 0);
        due("an empty house does not", x.count(6), 1);
        house("hx", -2);
        due("nor one that can't be", x.count(6), 1);
        house("hl1", 1);
        due("a house forgets them", x.undo(), -1);
        x.keep(0);
        x.day();
        x.again(1);
        due("a refused again() does not", x.count(6), 1);
        x.again(0);
        due("again() forgets them", x.undo(), -1);
        x.secret(1, 4);
        x.day();
        x.secret(1, 9);
        x.undo();
        due("secrets stay", x.count(5), 9);
        x.gale(1, 5);
        due("a gale in which nothing falls", x.count(6), 1);
    }

    private static void undoneOneByOne() {
        fresh("d01l9;hl1*3;hl1;hr1");
        x.hang(0, 0);
        x.day();
        due("take", x.take(0), 0);
        due("undo take", x.undo(), 2);
        due("it hangs", x.door(0, 4), 1);
        due("rust", x.hinge(0, 3), 1);
        due("bend", x.bend(2), true);
        due("undo bend", x.undo(), 2);
        due("hand", x.hinge(2, 0), 1);
        due("till", x.count(3), 3);
        due("gale: 16838 of 19 is 4", x.gale(1, 19), 1);
        due("rust", x.hinge(0, 3), 3);
        due("undo gale", x.undo(), 2);
        due("it hangs", x.door(0, 4), 1);
        due("rust", x.hinge(0, 3), 1);
        due("hang", x.hang(1, 0), 2);
        due("undo hang", x.undo(), 2);
        due("in the forge", x.hinge(1, 5), -1);
        due("oil", x.oil(0, 5), 5);
        due("undo oil", x.undo(), 2);
        due("oil", x.hinge(0, 4), 0);
        order("t0;h1>0", 2);
        due("undo order", x.undo(), 2);
        due("on the door", x.door(0, 4), 1);
        due("undo day", x.undo(), 1);
        due("till and days", x.count(3) + x.count(2), 0);
    }

    // ---- what is shut

    private static void whatIsShut() {
        promise(19);
        fresh("d01l5;d12r4;d23l2;d03r9;hl3;hl2;hr3;hb1;hr8");
        order("h0>0;h1>0;h2>1;h3>1;h4>3", 5);
        due("shut", x.shut(), 2);
        row(3, 8, 4);
        x.days(2);
        due("shut", x.shut(), 0);
        row(0, 11, 4);

        promise(20);
        x.undo();
        x.sheet(2, 7, 1, 1);
        due("thief(0)", x.thief(0), 13);
        row(2 + 3);
        due("thief(1)", x.thief(1), 2);
        row(1);
        due("thief(2)", x.thief(2), 13);
        row(5);
        due("thief(7)", x.thief(7), 128);
        row(7);
        due("thief(8)", x.thief(8), -1);
        due("thief(-1)", x.thief(-1), -1);
        row(7);

        promise(21);
        due("kept", x.kept(), 1 + 4 + 5 + 6 + 7);
        row(2 | 16 | 32 | 64 | 128);
        x.secret(1, 9);
        due("kept", x.kept(), 31);
        x.take(0);
        due("kept", x.kept(), 22);
        row(16 | 32 | 64 | 128);

        quietWays();
        howLong();
        walls();
    }

    private static void quietWays() {
        promise(22);
        fresh("d01l9;d12l9;d02l9;d20l9;d23l9;hl1;hl1;hl9;hl9");
        rule("i+1", 0);
        due("quiet(0)", x.quiet(0), 0);
        row();
        due("the fewest doors", x.quiet(2), 0);
        row(2);
        due("quiet(3)", x.quiet(3), 0);
        row(2, 4);
        x.hang(0, 2);
        due("a quiet one beside", x.quiet(2), 0);
        row(3);
        x.hang(1, 3);
        due("by more doors, but quieter", x.quiet(2), 0);
        row(0, 1);
        x.take(0);
        x.hang(0, 0);
        due("as quiet, the fewest", x.quiet(2), 0);
        row(2);
        x.hang(2, 4);
        due("quiet(3)", x.quiet(3), 3);
        row(2, 4);
        x.hang(3, 4);
        due("shut", x.quiet(3), -2);
        row(2, 4);
        due("quiet(4)", x.quiet(4), -2);
        due("quiet(8)", x.quiet(8), -1);
        due("quiet(-1)", x.quiet(-1), -1);
        fresh("d13l9;d23l9;d02l9;d01l9");
        due("the least row of as short ones", x.quiet(3), 0);
        row(2, 1);
    }

    private static void howLong() {
        promise(23);
        fresh("d01l6;d02l9;hl4;hl4;hl9;hl9");
        order("h0>0;h1>0;h2>1;h3>1;o0*5", 5);
        due("lasts(1): 4 less 3, and 4 that was oiled", x.lasts(1), 6);
        due("lasts(2): 5 and 5 stay", x.lasts(2), -2);
        due("lasts(3): no door", x.lasts(3), -2);
        due("lasts(0)", x.lasts(0), -1);
        due("lasts(8)", x.lasts(8), -1);
        due("lasts(-1)", x.lasts(-1), -1);
        due("nothing changes", x.count(2) + x.hinge(0, 3), 0);
        for (int k = 0; k < 6; k++) {
            due("lasts(1)", x.lasts(1), 6 - k);
            x.day();
        }
        due("lasts(1)", x.lasts(1), 0);
        x.take(2);
        due("lasts(2)", x.lasts(2), 0);

        promise(24);
        fresh("d01l6;d02l9;d03r1;hl4*5;hl4*0;hl9*9;hl9");
        order("h0>0;h1>0;h2>1", 3);
        due("rent(1)", x.rent(1), 14);
        row(5, 9, 0);
        due("rent(99)", x.rent(99), 1386);
        row(495, 891, 0);
        due("rent(0)", x.rent(0), 0);
        row(0, 0, 0);
        due("rent(100)", x.rent(100), -1);
        due("rent(-1)", x.rent(-1), -1);
        due("nothing was paid", x.count(3), 0);

        promise(25);
        fresh("d01l6;d02l9;d03r9;hl4;hl4;hl9;hl9;hr1;hr1");
        order("h0>0;h1>0;h2>1;h4>2;h5>2;o0*9", 6);
        due("rusts(0): as if it had no oil", x.rusts(0), 4);
        due("rusts(1): it has not two", x.rusts(1), -3);
        due("rusts(2): it is not shut now", x.rusts(2), 0);
        x.hang(3, 1);
        due("rusts(1)", x.rusts(1), -2);
        x.oil(1, 9);
        due("rusts(0)", x.rusts(0), 4);
        x.days(2);
        due("oil keeps it", x.rusts(0), 4);
        due("rusts(3)", x.rusts(3), -1);
        due("rusts(-1)", x.rusts(-1), -1);
    }

    private static void walls() {
        promise(26);
        fresh("d01l1;d12l1;d02l1;d13l1;d23l1;d34l1;hl9;hl9");
        order("h0>5;h1>5", 2);
        due("whatever hangs: wall(1)", x.wall(1), 2);
        row(1 | 4);
        due("wall(2)", x.wall(2), 2);
        row(1 | 4);
        due("of as few the least: wall(3)", x.wall(3), 2);
        row(1 | 4);
        due("wall(4)", x.wall(4), 1);
        row(32);
        due("wall(5)", x.wall(5), 0);
        row(0);
        fresh("d01l1");
        x.shut();
        due("all doors", x.wall(1), 1);
        row(1);
        fresh("d01l1;d10r1;d01r1");
        due("all doors", x.wall(1), 3);
        row(7);
        due("wall(2)", x.wall(2), 0);
        row(0);
        fresh("d01l1;d12l1;d02l1;d13l1;d23l1;d34l1;hl9;hl9");
        x.wall(5);
        due("wall(0)", x.wall(0), -1);
        due("wall(8)", x.wall(8), -1);
        row(0);

        promise(27);
        x.secret(1, 2);
        x.secret(3, 5);
        x.secret(4, 6);
        x.secret(7, 1);
        due("guard(0)", x.guard(0), 0);
        row(0, 1);
        due("guard(1)", x.guard(1), 0);
        row(0, 1);
        due("guard(7)", x.guard(7), 1);
        row(32, 7);
        due("guard(8)", x.guard(8), 2);
        row(5, 14);
        due("guard(14)", x.guard(14), 2);
        row(5, 14);
        due("guard(15)", x.guard(15), -2);
        due("guard(63)", x.guard(63), -2);
        due("guard(64)", x.guard(64), -1);
        due("guard(-1)", x.guard(-1), -1);
        row(5, 14);
    }

    // ---- hangings

    private static void hangings() {
        promise(28);
        fresh("d01l5;d12r5;d23l8;hl4;hr4;hb4;hb1;hl1");
        due("all(0)", x.all(0), 5);
        row(0, 0, 0);
        due("all(1)", x.all(1), 3);
        row(5, 0, 0);
        due("all(2)", x.all(2), 3);
        row(0, 6, 0);
        due("all(3): the least by which they are", x.all(3), 1);
        row(5, 10, 0);
        due("all(4)", x.all(4), 3);
        row(0, 0, 5);
        due("all(6)", x.all(6), 1);
        row(0, 10, 5);
        due("all(5)", x.all(5), -2);
        due("all(7)", x.all(7), -2);
        due("all(8)", x.all(8), -1);
        due("all(-1)", x.all(-1), -1);
        due("all(min)", x.all(Integer.MIN_VALUE), -1);
        row(0, 10, 5);
        due("nothing changes", x.count(4), 31);
        x.hang(0, 0);
        x.days(2);
        due("rust counts, where they hang does not: all(4)", x.all(4), -2);
        due("all(1)", x.all(1), 3);
        row(5, 0, 0);

        promise(29);
        fresh("d01l9;d12r5;d23l8;hl4;hr4;hb4;hb1;hl4");
        due("most", x.most(), 2);
        row(6);
        fresh("d01l9;d12r9;hl4;hr4");
        due("most", x.most(), 0);
        row(0);
        x.shut();
        due("most", x.most(), 0);
        row(0);
        fresh("d01l1;d12l1;d23l1;d34l1;hl1;hl1;hl1;hl1;hl1");
        due("most", x.most(), 2);
        row(3);

        promise(30);
        fresh("d01l9;d12r5;d23l8;d02l1;hl4;hr4;hb4;hb1;hl4");
        x.sheet(2, 3, 1, 2);
        due("best", x.best(), 8);
        row(10, 0, 6, 0, 9);
        x.secret(3, 0);
        due("best of secrets that are on the way", x.best(), 3);
        row(10, 0, 6, 0, 9);
        x.secret(2, 0);
        due("none can be kept", x.best(), 0);
        row(0, 0, 0, 0, 0);
        fresh("d01l2;d02l2;hl1;hl1");
        x.secret(1, 4);
        x.secret(2, 4);
        due("of as good ones the least", x.best(), 4);
        row(1, 3, 0);

        cheapOnes();
        changes();
        nextAndSpare();
    }

    private static void cheapOnes() {
        promise(31);
        fresh("d01l4;d02r4;hl4*9;hl2*3;hl2*2;hb2*1;hr3*0;hr1*0");
        x.secret(1, 5);
        x.secret(2, 3);
        x.secret(5, 1);
        due("cheap(0)", x.cheap(0), 0);
        row(0, 0, 0);
        due("cheap(1)", x.cheap(1), 0);
        row(0, 0, 0);
        due("cheap(2)", x.cheap(2), 0);
        row(2, 0, 48);
        due("cheap(5)", x.cheap(5), 3);
        row(1, 12, 0);
        due("cheap(9)", x.cheap(9), 3);
        row(3, 12, 48);
        due("cheap(10)", x.cheap(10), -2);
        due("cheap(64)", x.cheap(64), -1);
        due("cheap(-1)", x.cheap(-1), -1);
        row(3, 12, 48);
        fresh("d01l2;d02l2;hl1*2;hl1;hl1;hl1*2");
        x.secret(1, 4);
        x.secret(2, 4);
        due("of as cheap ones the least", x.cheap(4), 2);
        row(1, 6, 0);
        due("of as cheap ones the least", x.cheap(8), 6);
        row(3, 3, 12);
    }

    private static void changes() {
        promise(32);
        fresh("d01l4;d02r4;hl4*9;hl2*3;hl2*2;hb2*1;hr3*0;hr1*0");
        x.secret(1, 5);
        x.secret(2, 3);
        x.secret(5, 1);
        order("h1>0;h5>1", 2);
        due("change(1)", x.change(1), 0);
        row(2, 32);
        due("change(2)", x.change(2), 1);
        row(2, 48);
        due("change(5)", x.change(5), 1);
        row(3, 32);
        due("change(9)", x.change(9), 2);
        row(3, 48);
        due("change(10)", x.change(10), -2);
        due("change(64)", x.change(64), -1);
        due("change(-1)", x.change(-1), -1);
        row(3, 48);
        fresh("d01l9;d02l9;hl5;hl4;hl1");
        x.secret(1, 5);
        x.secret(2, 5);
        order("h0>0;h2>0", 2);
        due("one down, one up", x.change(5), 2);
        row(3, 0);
        order("t2;h2>1", 2);
        due("change(5)", x.change(5), 1);
        row(3, 4);
        order("h1>1", 1);
        due("moved from door to door counts one", x.change(5), 1);
        row(3, 4);
        due("change(6)", x.change(6), -2);
        fresh("d01l1;d12l1;d23l1;d34l1;hl1;hl1;hl1;hl1;hl1;hl1;hl1;hl1");
        x.secret(4, 1);
        due("8 hinges, 4 doors", x.change(1), 2);
        row(0, 0, 0, 3);
        house("hl1", 1);
        due("9 hinges", x.change(1), -3);
        due("another v first", x.change(64), -1);
        fresh("d01l1;d12l1;d23l1;d34l1;d45l1");
        due("5 doors", x.change(0), -3);
    }

    private static void nextAndSpare() {
        promise(33);
        fresh("d01l4;d02r4;hl4;hl2;hr2;hr2;hb2");
        x.secret(1, 5);
        x.secret(2, 3);
        x.secret(5, 1);
        due("next: none makes more", x.next(), 0);
        row(0, 1);
        order("h2>1", 1);
        due("next", x.next(), 3);
        row(1, 4);
        order("h1>0", 1);
        due("next", x.next(), 0);
        row(0, 6);
        order("h0>0", 1);
        due("next", x.next(), 3);
        row(1, 9);
        order("h3>1", 1);
        due("no room", x.next(), -2);
        row(0, 0);
        fresh("d01l4;hr9");
        due("none fits", x.next(), -2);
        due("no row", x.count(8), 0);
        fresh("d01r4;d02r4;hr1;hr1");
        due("the first door", x.next(), 0);
        row(0, 0);

        promise(34);
        fresh("d01l4;d02r4;hl4;hl2;hr2*5;hr2*7;hb2*9");
        x.secret(1, 5);
        x.secret(2, 3);
        due("none hangs", x.spare(), -2);
        due("no row", x.count(8), 0);
        order("h2>1", 1);
        due("spare", x.spare(), 2);
        row(0);
        order("h0>0;h1>0;h3>1", 3);
        due("the most kept, then the most rent", x.spare(), 3);
        row(5);
        order("t2;h4>1", 2);
        due("the most rent", x.spare(), 4);
        row(5);
        order("t4;t3", 2);
        due("then the first", x.spare(), 0);
        row(0);
    }

    // ---- gales

    private static void gales() {
        promise(35);
        fresh("d01l9;d02r4;d03l9;hl1;hl2;hr2;hr2;hl5;hl9");
        due("risk of nothing", x.risk(19), 0);
        row(1, 1);
        order("h0>0;h1>0;h2>1;h3>1;h4>2", 5);
        due("risk(2): 0 and 1 alone", x.risk(2), 0);
        row(1, 1);
        due("risk(1)", x.risk(1), 0);
        row(1, 1);
        due("risk(3)", x.risk(3), 1);
        row(2, 3);
        due("risk(6)", x.risk(6), 3);
        row(1, 6);
        due("risk(7)", x.risk(7), 19);
        row(36, 343);
        due("risk(0)", x.risk(0), -1);
        due("risk(20)", x.risk(20), -1);
        due("risk(-1)", x.risk(-1), -1);
        row(36, 343);
        due("nothing falls", x.door(0, 4), 3);
        fresh("d01l9;d12l9;d23l9;d34l9;d45l9;d56l9;hl1;hl1;hl1;hl1;hl1;hl1;hl1");
        house("hl1;hl1;hl1;hl1;hl1", 5);
        order("h0>0;h1>0;h2>1;h3>1;h4>2;h5>2", 6);
        order("h6>3;h7>3;h8>4;h9>4;h10>5;h11>5", 6);
        due("twelve", x.risk(19), 4095);
        row(4096, 2213314919066161L);
        x.days(2);
        due("a hold of 0", x.risk(19), 4095);
        row(1, 2213314919066161L);

        promise(36);
        due("a hold of 0", x.stands(), 1);
        fresh("d01l9;d02r4;hl7;hl9;hr1;hr3");
        due("nothing hangs", x.stands(), 19);
        x.hang(0, 0);
        due("the first alone", x.stands(), 8);
        x.take(0);
        x.hang(1, 0);
        due("stands", x.stands(), 10);
        x.hang(0, 0);
        due("a shut door stands", x.stands(), 19);
        x.hang(2, 1);
        due("stands", x.stands(), 2);
        x.hang(3, 1);
        due("shut", x.stands(), 19);
        x.days(2);
        due("rust", x.stands(), 1);
        due("and 0 can fall in a gale of 2", x.risk(2), 4);
    }

    // ---- creaks that were heard

    private static void creaks() {
        promise(37);
        fresh();
        due("heard(0)", x.heard(0), 1);
        due("heard(198)", x.heard(198), 2);
        due("heard(199)", x.heard(199), -1);
        due("heard(-1)", x.heard(-1), -1);
        for (int k = 3; k <= 12; k++) {
            due("heard(5)", x.heard(5), k);
        }
        due("heard(5)", x.heard(5), -1);
        due("count(7)", x.count(7), 12);

        promise(38);
        due("forget", x.forget(), 12);
        due("forget", x.forget(), 0);
        due("heard(5)", x.heard(5), 1);
        due("count(7)", x.count(7), 1);

        waysHeard();
        manyWays();
        whatHungBehind();
    }

    private static void waysHeard() {
        promise(39);
        fresh("d01l9;d12l9;d02l9;d23l9;hl1;hl1;hl2;hl9");
        rule("s", 0);
        due("nothing heard: one way", x.ways(), 1);
        row(1);
        x.heard(0);
        due("ways", x.ways(), 2);
        row(6, 0);
        x.heard(0);
        due("ways", x.ways(), 2 + 3);
        row(1 | 2 | 4 | 8, 0, 0);
        order("h0>0;h2>3", 2);
        due("ways", x.ways(), 2);
        row(1 | 2, 2, 1);
        promise(40);
        due("been(0)", x.been(0), 1);
        due("been(1)", x.been(1), 4);
        due("been(2)", x.been(2), 3);
        due("been(3)", x.been(3), -1);
        due("been(-1)", x.been(-1), -1);
        promise(41);
        due("sure", x.sure(), 4);
        row(2 | 4);
        x.heard(2);
        promise(39);
        due("none", x.ways(), 0);
        row(0);
        promise(40);
        due("been(0) without a way", x.been(0), 0);
        due("been(3)", x.been(3), 0);
        promise(41);
        due("sure without a way", x.sure(), -2);
        row(0);
        x.forget();
        due("sure with nothing heard", x.sure(), 0);
        row(0);
        promise(39);
        x.heard(1);
        x.heard(0);
        x.heard(2);
        due("ways", x.ways(), 1);
        row(8, 0, 1, 3);
        promise(41);
        due("sure", x.sure(), 11);
        row(11);
        promise(40);
        due("been(2)", x.been(2), 4);
        promise(39);
        x.hang(3, 3);
        due("a shut door", x.ways(), 0);
        row(0);
        x.forget();
        x.heard(11);
        due("none goes through a shut door", x.ways(), 0);
        row(0);
    }

    private static void manyWays() {
        promise(39);
        fresh("d01l9;d10l9;d01l9;d10l9");
        for (int k = 0; k < 9; k++) {
            x.heard(0);
        }
        due("4 of 9", x.ways(), 262144);
        row(2, 0, 0, 0, 0, 0, 0, 0, 0, 0);
        x.heard(0);
        due("4 of 10", x.ways(), 1000000);
        row(1, 0, 0, 0, 0, 0, 0, 0, 0, 0, 0);
        house("d01r9;d01r9;d01r9;d01r9", 4);
        x.heard(0);
        x.heard(0);
        due("8 of 12", x.ways(), 1000000);
        row(1, 0, 0, 0, 0, 0, 0, 0, 0, 0, 0, 0, 0);
        due("sure", x.sure(), 0);
        row(255);
        fresh("d01l9;d10l9;d01l9;d10l9;d01l9;d10l9;d01l9;d10l9;hl1");
        x.forget();
        rule("50", 0);
        x.hang(0, 3);
        x.heard(50);
        for (int k = 0; k < 6; k++) {
            x.heard(0);
        }
        due("7 of 6", x.ways(), 117649);
        row(2, 3, 0, 0, 0, 0, 0, 0);
        promise(41);
        due("sure", x.sure(), 8);
        row(255);
    }

    private static void whatHungBehind() {
        promise(42);
        fresh("d01l5;d02l5;hl3;hl2;hr4;hb2;hl1;hl6");
        rule("s+n*10+x", 0);
        x.hang(4, 1);
        due("one alone", x.behind(0, 12), 2);
        row(2);
        due("one alone", x.behind(0, 13), 1);
        row(1);
        due("two that shut it", x.behind(0, 47), 2);
        row(3);
        due("two that do not", x.behind(0, 44), 1);
        row(10);
        due("none fits so", x.behind(0, 14), 0);
        row(-1);
        due("behind(1, 0)", x.behind(1, 0), -2);
        due("behind(0, 199)", x.behind(0, 199), -1);
        due("behind(0, -1)", x.behind(0, -1), -1);
        due("behind(2, 0)", x.behind(2, 0), -1);
        due("behind(-1, 0)", x.behind(-1, 0), -1);
        row(-1);
        rule("999", 0);
        due("behind(0, 198)", x.behind(0, 198), 6);
        row(3);
        due("behind(0, 99)", x.behind(0, 99), 4);
        row(1);
        due("nothing changes", x.count(4), 47);
        fresh("d01l5;d02l5;hl3;hl3");
        rule("s", 0);
        x.hang(0, 1);
        due("those in the forge alone", x.behind(0, 3), 1);
        row(2);
        due("those in the forge alone", x.behind(0, 6), 0);
        row(-1);
    }

    // ---- bidding, rings

    private static void bidding() {
        promise(43);
        fresh("d01l5;d02l9;d03r7;d04l3;hl3;hl2;hr4;hb2;hl2;hl1");
        due("two doors of 9 and 5 by turns", x.bid(0), 1);
        row(5);
        due("one alone", x.bid(2), 2);
        row(1);
        due("a hinge for all", x.bid(3), 1);
        row(7);
        x.hang(0, 1);
        due("9 less 3", x.bid(1), 1);
        row(5);
        x.hang(4, 1);
        due("no room", x.bid(1), 0);
        row(3);
        due("bid(0)", x.bid(0), -3);
        due("bid(6)", x.bid(6), -1);
        due("bid(-1)", x.bid(-1), -1);
        row(3);
        fresh("d01l3;hl4;hl1;hr1");
        due("the first bids 1", x.bid(1), 0);
        row(1);
        x.hang(0, 0);
        due("worth nothing more", x.bid(1), -2);
        due("it fits none", x.bid(2), -2);
        row(1);
        fresh("d01l4;d02l4;d03l4;hl1");
        due("three of 4", x.bid(0), 0);
        row(4);
        fresh("d01l1;d02l1;hl1");
        due("two of 1", x.bid(0), 0);
        row(1);
        fresh("hl1");
        due("no doors", x.bid(0), -2);

        promise(44);
        fresh("d01l5;d02l9;d03r7;d04l3;hl3;hl2;hr4;hb2;hl2;hl1");
        due("rings", x.rings(), 0);
        row(0, 0);
        order("h0>0;h1>1", 2);
        due("each wants the other's", x.rings(), 2);
        row(3, 1);
        order("h3>2;h2>2", 2);
        due("3 wants 1's, 2 stays", x.rings(), 2);
        row(3, 1);
        x.bend(0);
        x.take(1);
        x.hang(1, 2);
        due("none where it would be", x.rings(), 0);
        row(0, 0);
        fresh("d01l5;d02l5;d03r5;d04r5;hl1;hl1;hr1;hr1");
        order("h0>0;h1>1;h2>2;h3>3", 4);
        due("two rings", x.rings(), 4);
        row(15, 2);
        fresh("d01l1;d02l9;d03l5;hl1;hl1;hl1");
        order("h0>0;h1>1;h2>2", 3);
        due("0 would be in 1's place, 1 and 2 in one another's", x.rings(), 2);
        row(6, 1);
        fresh("d01l1;d02l5;hl1;hl1;hl1");
        order("h2>0;h1>0;h0>1", 3);
        due("the first by number that hangs there", x.rings(), 2);
        row(3, 1);
        fresh("d01l9;d02r8;d03r7;hb1;hr1;hb1");
        order("h0>0;h1>1;h2>2", 3);
        due("a ring of three", x.rings(), 3);
        row(7, 1);
        fresh("d01l5;d02l5;d03l5;hl1;hl1;hl1");
        order("h0>0;h1>1;h2>2", 3);
        due("of equal ones the first", x.rings(), 2);
        row(3, 1);
        fresh("d01l5;d02r5;hl1;hr1");
        order("h0>0;h1>1", 2);
        due("no other that it fits", x.rings(), 0);
        row(0, 0);
    }

    // ---- kept

    private static void kept() {
        promise(45);
        fresh("d01l5;d02r9;hl3*4;hl3*2;hr9*9");
        due("keep(0)", x.keep(0), true);
        due("keep(2)", x.keep(2), true);
        due("keep(3)", x.keep(3), false);
        due("keep(-1)", x.keep(-1), false);

        promise(46);
        due("again(1)", x.again(1), false);
        due("again(3)", x.again(3), false);
        due("again(-1)", x.again(-1), false);
        order("h0>0;h1>0;o0*5;n3", 4);
        x.bend(0);
        x.secret(1, 5);
        due("keep(1)", x.keep(1), true);
        due("again(0)", x.again(0), true);
        due("places", x.count(4), 7);
        due("days, till, hand", x.count(2) + x.count(3) + x.hinge(0, 0), 0);
        due("oil, rust", x.hinge(0, 4) + x.hinge(1, 3), 0);
        due("secrets stay", x.count(5), 5);
        due("again(1)", x.again(1), true);
        due("places", x.door(0, 4), 3);
        due("days", x.count(2), 3);
        due("till", x.count(3), 18);
        due("hand", x.hinge(0, 0), 2);
        due("oil", x.hinge(0, 4), 2);
        due("rust", x.hinge(1, 3), 3);
        due("twice", x.again(1), true);
        house("hx", -2);
        due("no house came", x.again(1), true);
        house("hl1", 1);
        due("a hinge came", x.again(1), false);
        due("keep(1)", x.keep(1), true);
        house("d45l1", 1);
        due("a door came", x.again(1), false);
        due("and for 0", x.again(0), false);
        due("nothing changes", x.count(2), 3);

        promise(47);
        fresh("d01l5;d02r9;hl3*4;hl3*2;hr9*9");
        x.sheet(2, 7, 1, 1);
        x.hang(1, 0);
        x.days(3);
        x.heard(1);
        x.heard(1);
        x.shut();
        x.sign(0);
        int[] counts = {2, 3, 3, 6, 5, 28, 2, 2, 3, 4};
        for (int what = 0; what <= 9; what++) {
            due("count(" + what + ")", x.count(what), counts[what]);
        }
        due("count(10)", x.count(10), -100);
        due("count(-1)", x.count(-1), -100);
        due("count(max)", x.count(Integer.MAX_VALUE), -100);

        promise(48);
        row(0, 1, 2);
        due("row(-1) throws", rowThrows(-1), true);
        due("row(max) throws", rowThrows(Integer.MAX_VALUE), true);
        due("row(min) throws", rowThrows(Integer.MIN_VALUE), true);
        x.thief(9);
        row(0, 1, 2);
        x.kept();
        row(254 & ~7);
    }
}
