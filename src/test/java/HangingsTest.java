import java.util.NoSuchElementException;
import java.util.Random;

/** all, most, best, cheap and change in houses where most doors can be shut in many ways, compared with the model. */
public final class HangingsTest {
    private static int wrong = 0;

    public static void main(String[] args) {
        int houses = args.length > 0 ? Integer.parseInt(args[0]) : 1000;
        for (int seed = 1; seed <= houses && wrong == 0; seed++) {
            int doors = seed % 60 == 0 ? 5 : 3 + seed % 2;
            askOf(new Random(seed), doors, 2 * doors + seed % 2 - seed % 3, seed);
        }
        fullHouse();
        wrong += Counted.tooMany();
        System.out.println("HangingsTest: " + (wrong == 0 ? "all answers are as due" : "WRONG"));
        if (wrong != 0) {
            System.exit(1);
        }
    }

    private static void same(String call, Counted x, long got, Model model, long due) {
        boolean good = got == due && x.count(8) == model.row.size();
        for (int i = 0; good && i < model.row.size(); i++) {
            good = rowOf(x, i) == model.row.get(i);
        }
        if (!good) {
            wrong++;
            System.out.print(call + " answered " + got + " with the row");
            for (int i = 0; i < x.count(8); i++) {
                System.out.print(" " + rowOf(x, i));
            }
            System.out.println(", due is " + due + " with the row " + model.row);
        }
    }

    private static long rowOf(Counted x, int i) {
        try {
            return x.row(i);
        } catch (NoSuchElementException e) {
            return Long.MIN_VALUE;
        }
    }

    private static void build(Counted x, Model model, String text) {
        for (int v : Asked.packed(text)) {
            x.sign(v);
            model.sign(v);
        }
        x.end(text.length());
        model.end(text.length());
        if (x.house() < 1 || model.house() < 1) {
            wrong++;
            System.out.println("the house does not stand: " + text);
        }
    }

    private static void askOf(Random random, int doors, int hinges, int seed) {
        Counted x = new Counted();
        Model model = new Model();
        StringBuilder text = new StringBuilder();
        boolean star = random.nextInt(4) > 0;
        for (int d = 0; d < doors; d++) {
            int from = star ? 0 : random.nextInt(d + 1);
            text.append(d > 0 ? ";" : "").append('d').append(from).append(d + 1);
            text.append(random.nextInt(3) == 0 ? 'r' : 'l').append(1 + random.nextInt(6));
        }
        build(x, model, text.toString());
        text.setLength(0);
        for (int h = 0; h < hinges; h++) {
            text.append(h > 0 ? ";" : "").append('h').append("lbbr".charAt(random.nextInt(4)));
            text.append(1 + random.nextInt(4)).append('*').append(random.nextInt(random.nextBoolean() ? 3 : 10));
        }
        build(x, model, text.toString());
        for (int room = 1; room < 8; room++) {
            int v = random.nextInt(4);
            x.secret(room, v);
            model.secret(room, v);
        }
        for (int k = 0; k < hinges; k++) {
            int h = random.nextInt(hinges);
            int d = random.nextInt(doors);
            x.hang(h, d);
            model.hang(h, d);
        }
        int days = random.nextInt(4);
        x.days(days);
        model.days(days);
        ask(x, model, seed, hinges <= 7 && doors <= 3);
    }

    private static void ask(Counted x, Model model, int seed, boolean changes) {
        String house = "house " + seed + ": ";
        same(house + "most()", x, x.most(), model, model.most());
        same(house + "best()", x, x.best(), model, model.best());
        Counted second = x.twin();
        for (int mask = 0; mask < 1 << model.doors.size(); mask++) {
            same(house + "all(" + mask + ")", x, x.all(mask), model, model.all(mask));
        }
        for (int v = 0; v <= model.count(5) + 1; v++) {
            same(house + "cheap(" + v + ")", second, second.cheap(v), model, model.cheap(v));
            if (changes && v % 3 == 0) {
                same(house + "change(" + v + ")", second, second.change(v), model, model.change(v));
            }
        }
    }

    /** Eight doors and twelve hinges: all 66 pairs shut each door. */
    private static void fullHouse() {
        Counted x = new Counted();
        Model model = new Model();
        build(x, model, "d01l1;d02r2;d03l3;d04r1;d05l2;d06r3;d07l1;d01r1");
        build(x, model, "hb9*9;hb8*8;hb7*7;hb6*6;hb5*5;hb4*4;hb3*3;hb2*2;hb9*1;hb8*0;hb7*1;hb6*2");
        x.sheet(2, 7, 1, 1);
        model.sheet(2, 7, 1, 1);
        same("full house: best()", x, x.best(), model, model.best());
        same("full house: all(63)", x, x.all(63), model, model.all(63));
        same("full house: all(255)", x, x.all(255), model, model.all(255));
        x = new Counted();
        model = new Model();
        build(x, model, "d01l9;d02r9;d03l9");
        build(x, model, "hb9*9;hb8*8;hb7*7;hb6*6;hb5*5;hb4*4;hb3*3;hb2*2;hb9*1;hb8*0;hb7*1;hb6*2");
        x.sheet(2, 7, 1, 1);
        model.sheet(2, 7, 1, 1);
        for (int v = 22; v <= 29; v++) {
            same("three doors: cheap(" + v + ")", x, x.cheap(v), model, model.cheap(v));
        }
    }
}
