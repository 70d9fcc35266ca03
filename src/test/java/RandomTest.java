import java.util.List;
import java.util.NoSuchElementException;
import java.util.Random;
import java.util.function.LongSupplier;

/** Random runs of calls on the program and on the model, with every answer, the ROW and the whole state compared. */
public final class RandomTest {
    private static final long THROWS = Long.MIN_VALUE;
    // What is left of 512 calls is for a look at the whole state.
    private static final int MOST_CALLS = 230;
    private static final String LETTERS = "dhlrb0123456789*;><=+-/()rsowntidxtno ";

    private final Random random;
    private final Counted program = new Counted();
    private final Model model = new Model();
    private final StringBuilder log = new StringBuilder();
    private final int mostDoors;
    private final int mostHinges;
    private List<Long> rowSeen = List.of();
    private static int wrong = 0;

    private RandomTest(long seed, int mostDoors, int mostHinges) {
        random = new Random(seed);
        this.mostDoors = mostDoors;
        this.mostHinges = mostHinges;
    }

    public static void main(String[] args) {
        int runs = args.length > 0 ? Integer.parseInt(args[0]) : 500;
        long first = args.length > 1 ? Long.parseLong(args[1]) : 1;
        for (int k = 0; k < runs && wrong == 0; k++) {
            int doors = k % 4 == 3 ? 8 : 1 + k % 4 + k / 4 % 2;
            int hinges = k % 4 == 3 ? 12 : 3 + k % 5;
            new RandomTest(first + k, doors, hinges).run(first + k);
        }
        wrong += Counted.tooMany();
        System.out.println("RandomTest: " + (wrong == 0 ? "all answers are as due" : "WRONG"));
        if (wrong != 0) {
            System.exit(1);
        }
    }

    private int pick(int n) {
        return random.nextInt(n);
    }

    private void run(long seed) {
        try {
            if (mostHinges == 12) {
                fillHouse();
            }
            for (int k = 1; program.calls() < MOST_CALLS && wrong == 0; k++) {
                step(k);
                compareRow();
                if (k % 5 == 0 || program.calls() >= MOST_CALLS) {
                    compareState(program.twin());
                }
            }
        } catch (RuntimeException e) {
            wrong++;
            e.printStackTrace(System.out);
        }
        if (wrong != 0) {
            System.out.println("run of seed " + seed + ":\n" + log);
        }
    }

    private void same(String call, long got, long due) {
        log.append(call).append(" -> ").append(got).append('\n');
        if (got != due) {
            wrong++;
            log.append("   due is ").append(due).append('\n');
        }
    }

    private void same(String call, boolean got, boolean due) {
        same(call, got ? 1 : 0, due ? 1 : 0);
    }

    private void tellText(String text) {
        program.end(0);
        model.end(0);
        log.append("text ").append(text).append('\n');
        for (int v : Asked.packed(text)) {
            same("sign", program.sign(v), model.sign(v));
        }
        same("end", program.end(Math.min(80, text.length())), model.end(Math.min(80, text.length())));
    }

    private String spoilt(String text) {
        StringBuilder s = new StringBuilder(text);
        if (pick(6) == 0 && s.length() > 0) {
            int at = pick(s.length());
            switch (pick(4)) {
                case 0:
                    s.setCharAt(at, LETTERS.charAt(pick(LETTERS.length())));
                    break;
                case 1:
                    s.deleteCharAt(at);
                    break;
                case 2:
                    s.insert(at, LETTERS.charAt(pick(LETTERS.length())));
                    break;
                default:
                    s.setLength(at);
            }
        }
        return s.length() > 80 ? s.substring(0, 80) : s.toString();
    }

    /** Every door and hinge that there is room for: the last of each is where a wrong bound shows. */
    private void fillHouse() {
        StringBuilder s = new StringBuilder();
        for (int d = 0; d < 8; d++) {
            int a = pick(8);
            s.append(d > 0 ? ";" : "").append('d').append(a).append((a + 1 + pick(7)) % 8);
            s.append(pick(2) == 0 ? 'l' : 'r').append(1 + pick(9));
        }
        tellText(s.toString());
        same("house", program.house(), model.house());
        s.setLength(0);
        for (int h = 0; h < 12; h++) {
            s.append(h > 0 ? ";" : "").append('h').append("lrb".charAt(pick(3))).append(1 + pick(9)).append('*').append(pick(10));
        }
        tellText(s.toString());
        same("house", program.house(), model.house());
        same("hinges", program.count(1), 12);
    }

    private String houseText() {
        StringBuilder s = new StringBuilder();
        int lines = 1 + pick(12);
        int doors = model.doors.size();
        int hinges = model.hinges.size();
        for (int k = 0; k < lines; k++) {
            boolean door = pick(5) < 2;
            if (pick(25) > 0 && (door ? doors >= mostDoors : hinges >= mostHinges)) {
                continue;
            }
            s.append(s.length() > 0 ? ";" : "");
            if (door) {
                doors++;
                int a = pick(pick(2) == 0 ? 3 : 8);
                int b = pick(pick(2) == 0 ? 3 : 8);
                s.append('d').append(a).append(a == b && pick(20) > 0 ? (b + 1) % 8 : b);
                s.append(pick(3) == 0 ? 'l' : 'r').append(1 + pick(9));
            } else {
                hinges++;
                s.append('h').append("lrrb".charAt(pick(4))).append(1 + pick(9));
                s.append(pick(2) == 0 ? "" : "*" + pick(10));
            }
        }
        if (s.length() > 76 && pick(2) == 0) {
            s.setLength(76);
        }
        return spoilt(s.toString());
    }

    private String expression(int depth) {
        StringBuilder s = new StringBuilder();
        int parts = 1 + pick(3);
        boolean compared = false;
        for (int k = 0; k < parts; k++) {
            if (k > 0) {
                char operator = "+-*/<>=".charAt(pick(7));
                if ("<>=".indexOf(operator) >= 0) {
                    operator = compared && pick(10) > 0 ? '+' : operator;
                    compared = true;
                }
                s.append(operator);
            }
            s.append("-".repeat(pick(4) == 0 ? 1 + pick(2) : 0));
            int kind = pick(6);
            if (kind == 0 && depth < 6) {
                s.append('(').append(expression(depth + 1)).append(')');
            } else if (kind < 3) {
                s.append(pick(12) == 0 ? 100 + pick(900) : pick(12) == 0 ? pick(2000) : pick(15));
            } else {
                s.append("rsowntidx".charAt(pick(9)));
            }
        }
        return s.toString();
    }

    private String orderText() {
        StringBuilder s = new StringBuilder();
        int many = 1 + pick(12);
        for (int k = 0; k < many; k++) {
            s.append(k > 0 ? ";" : "");
            int h = pick(20) == 0 ? pick(100) : pick(Math.max(1, model.hinges.size()));
            String number = h < 10 && pick(4) == 0 ? "0" + h : "" + h;
            switch (pick(6)) {
                case 0:
                    s.append('t').append(number);
                    break;
                case 1:
                    s.append('o').append(number).append('*').append(pick(10));
                    break;
                case 2:
                    s.append('n').append(pick(2) == 0 ? "" : "" + (1 + pick(3)));
                    break;
                default:
                    s.append('h').append(number).append('>').append(pick(Math.max(1, model.doors.size())));
            }
        }
        if (s.length() > 60 && pick(3) > 0) {
            s.setLength(60);
        }
        return spoilt(s.toString());
    }

    private int someHinge() {
        return pick(30) == 0 ? pick(16) - 2 : pick(Math.max(1, model.hinges.size()));
    }

    private int someDoor() {
        return pick(30) == 0 ? pick(12) - 2 : pick(Math.max(1, model.doors.size()));
    }

    private int someRoom() {
        return pick(10) - 1;
    }

    private int someAmount() {
        int sum = model.count(5);
        return pick(20) == 0 ? pick(70) - 3 : pick(sum + 2);
    }

    private int someCreak() {
        if (pick(20) == 0) {
            return pick(210) - 5;
        }
        return model.doors.isEmpty() || pick(5) == 0 ? pick(4) : model.creak(pick(model.doors.size()));
    }

    private void step(int number) {
        int op = number < 4 ? 0 : pick(60);
        if (op < 2) {
            if (number < 4 || pick(4) == 0) {
                tellText(houseText());
                same("house", program.house(), model.house());
            } else {
                tellText(pick(12) == 0 ? "" : spoilt(cut(expression(0), 82)));
                same("rule", program.rule(), model.rule());
            }
        } else if (op < 14) {
            int h = someHinge();
            int d = someDoor();
            same("hang " + h + " " + d, program.hang(h, d), model.hang(h, d));
        } else if (op < 30) {
            act(op);
        } else if (op < 45) {
            ask(op);
        } else {
            seek(op);
        }
    }

    private static String cut(String s, int most) {
        return s.length() > most ? s.substring(0, most) : s;
    }

    private void act(int op) {
        int h = someHinge();
        int n = pick(11);
        switch (op) {
            case 14:
            case 15:
                same("take " + h, program.take(h), model.take(h));
                break;
            case 16:
                same("oil " + h + " " + n, program.oil(h, n), model.oil(h, n));
                break;
            case 17:
                same("bend " + h, program.bend(h), model.bend(h));
                break;
            case 18:
                same("day", program.day(), model.day());
                break;
            case 19:
                n = pick(6) == 0 ? pick(64) - 1 : pick(4);
                same("days " + n, program.days(n), model.days(n));
                break;
            case 20: {
                int seed = random.nextInt();
                int g = pick(22) - 1;
                same("gale " + seed + " " + g, program.gale(seed, g), model.gale(seed, g));
                break;
            }
            case 21:
            case 22:
                tellText(pick(15) == 0 ? "" : orderText());
                same("order", program.order(), model.order());
                break;
            case 23:
            case 24:
                same("undo", program.undo(), model.undo());
                break;
            case 25:
                n = pick(5) - 1;
                same("keep " + n, program.keep(n), model.keep(n));
                break;
            case 26:
                n = pick(5) - 1;
                same("again " + n, program.again(n), model.again(n));
                break;
            case 27:
                same("secret", program.secret(h - 1, n - 1), model.secret(h - 1, n - 1));
                break;
            case 28: {
                int kind = pick(6) - 1;
                int f = pick(3) == 0 ? random.nextInt() : pick(12) - 2;
                int by = pick(3) == 0 ? random.nextInt() : pick(5) - 2;
                int many = pick(4) == 0 ? pick(11) - 2 : 7;
                same("sheet " + kind + " " + many + " " + f + " " + by,
                    program.sheet(kind, many, f, by), model.sheet(kind, many, f, by));
                break;
            }
            default:
                if (pick(3) == 0) {
                    same("forget", program.forget(), model.forget());
                } else {
                    int creak = someCreak();
                    same("heard " + creak, hear(program.count(7), creak), hear(model, creak));
                }
        }
    }

    // The model tries all ways out, so that few creaks may be heard; a fixed test has the many.
    private int hear(int before, int creak) {
        return before >= 5 ? 0 : program.heard(creak);
    }

    private static int hear(Model model, int creak) {
        return model.heard.size() >= 5 ? 0 : model.heard(creak);
    }

    private void ask(int op) {
        int room = someRoom();
        int n = pick(103) - 1;
        int d = someDoor();
        int v = someAmount();
        switch (op) {
            case 30:
                same("shut", program.shut(), model.shut());
                break;
            case 31:
                same("thief " + room, program.thief(room), model.thief(room));
                break;
            case 32:
                same("kept", program.kept(), model.kept());
                break;
            case 33:
            case 34:
                same("quiet " + room, program.quiet(room), model.quiet(room));
                break;
            case 35:
                same("lasts " + room, program.lasts(room), model.lasts(room));
                break;
            case 36:
                same("rent " + n, program.rent(n), model.rent(n));
                break;
            case 37:
                same("rusts " + d, program.rusts(d), model.rusts(d));
                break;
            case 38:
                same("wall " + room, program.wall(room), model.wall(room));
                break;
            case 39:
                same("guard " + v, program.guard(v), model.guard(v));
                break;
            case 40:
                same("risk " + (n % 21), program.risk(n % 21), model.risk(n % 21));
                break;
            case 41:
                same("stands", program.stands(), model.stands());
                break;
            case 42:
                same("ways", program.ways(), model.ways());
                break;
            case 43:
                same("been " + (d - 1), program.been(d - 1), model.been(d - 1));
                break;
            default:
                same("sure", program.sure(), model.sure());
        }
    }

    private void seek(int op) {
        int v = someAmount();
        int d = someDoor();
        int creak = someCreak();
        int h = someHinge();
        boolean small = model.doors.size() <= 4 && model.hinges.size() <= 7;
        switch (op) {
            case 45:
            case 46: {
                int those = pick(30) == 0 ? random.nextInt() : pick(1 << model.doors.size());
                same("all " + those, program.all(those), model.all(those));
                break;
            }
            case 47:
                if (small || pick(20) == 0) {
                    same("most", program.most(), model.most());
                }
                break;
            case 48:
            case 49:
                if (small || pick(20) == 0) {
                    same("best", program.best(), model.best());
                }
                break;
            case 50:
            case 51:
                if (small) {
                    same("cheap " + v, program.cheap(v), model.cheap(v));
                }
                break;
            case 52:
                if (model.hinges.size() < 6 || model.hinges.size() > 8 || model.doors.size() > 4 || pick(20) == 0) {
                    same("change " + v, program.change(v), model.change(v));
                }
                break;
            case 53:
                same("next", program.next(), model.next());
                break;
            case 54:
                same("spare", program.spare(), model.spare());
                break;
            case 55:
            case 56:
                same("behind " + d + " " + creak, program.behind(d, creak), model.behind(d, creak));
                break;
            case 57:
                same("bid " + h, program.bid(h), model.bid(h));
                break;
            default:
                same("rings", program.rings(), model.rings());
        }
    }

    private void compareRow() {
        if (model.row.equals(rowSeen)) {
            return;
        }
        rowSeen = model.row;
        Counted twin = program.twin();
        check("count 8", twin.count(8), model.count(8));
        for (int i = -1; i <= model.row.size(); i++) {
            int at = i;
            check("row " + i, told(() -> twin.row(at)), told(() -> model.row(at)));
        }
    }

    private void compareState(Counted twin) {
        for (int what = -1; what <= 10; what++) {
            check("count " + what, twin.count(what), model.count(what));
        }
        for (int i = -1; i <= model.row.size(); i++) {
            int at = i;
            check("row " + i, told(() -> twin.row(at)), told(() -> model.row(at)));
        }
        for (int d = -1; d <= model.doors.size(); d++) {
            for (int what = -1; what <= 7; what++) {
                int door = d;
                int which = what;
                check("door " + d + " " + what, told(() -> twin.door(door, which)), told(() -> model.door(door, which)));
            }
        }
        for (int h = -1; h <= model.hinges.size(); h++) {
            for (int what = -1; what <= 7; what++) {
                int hinge = h;
                int which = what;
                check("hinge " + h + " " + what, told(() -> twin.hinge(hinge, which)), told(() -> model.hinge(hinge, which)));
            }
        }
    }

    private static long told(LongSupplier call) {
        try {
            return call.getAsLong();
        } catch (NoSuchElementException e) {
            return THROWS;
        }
    }

    private void check(String call, long got, long due) {
        if (got != due) {
            same(call, got, due);
        }
    }
}
