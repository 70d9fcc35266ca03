import java.util.ArrayDeque;
import java.util.ArrayList;
import java.util.Arrays;
import java.util.Deque;
import java.util.List;
import java.util.NoSuchElementException;

/** The document once more, by trying everything out: slow, and written without a look at the program. */
final class Model {
    static final class Door {
        int a, b, hand, weight;
    }

    static final class Hinge implements Cloneable {
        int hand, strength, fee, rust, oil, place = -1;

        Hinge copy() {
            try {
                return (Hinge) clone();
            } catch (CloneNotSupportedException e) {
                throw new AssertionError(e);
            }
        }

        int hold() {
            return Math.max(0, strength - rust / 2);
        }
    }

    static final class State {
        final List<Hinge> hinges = new ArrayList<>();
        int till, days, doorCount;
    }

    String text = "";
    String ruleText = "";
    final List<Door> doors = new ArrayList<>();
    List<Hinge> hinges = new ArrayList<>();
    final int[] secrets = new int[8];
    int till, days;
    List<Long> row = new ArrayList<>();
    final Deque<State> acts = new ArrayDeque<>();
    final State[] shelves = new State[3];
    final List<Integer> heard = new ArrayList<>();

    void tell(long... numbers) {
        row = new ArrayList<>();
        for (long n : numbers) {
            row.add(n);
        }
    }

    // ---- state

    State state() {
        State s = new State();
        for (Hinge h : hinges) {
            s.hinges.add(h.copy());
        }
        s.till = till;
        s.days = days;
        s.doorCount = doors.size();
        return s;
    }

    void restore(State s) {
        hinges = new ArrayList<>();
        for (Hinge h : s.hinges) {
            hinges.add(h.copy());
        }
        till = s.till;
        days = s.days;
    }

    void remember(State s) {
        acts.addLast(s);
        if (acts.size() > 15) {
            acts.removeFirst();
        }
    }

    boolean isDoor(int d) {
        return d >= 0 && d < doors.size();
    }

    boolean isHinge(int h) {
        return h >= 0 && h < hinges.size();
    }

    boolean fits(Hinge h, int d) {
        return h.hand == 2 || h.hand == doors.get(d).hand;
    }

    List<Integer> on(int d) {
        List<Integer> list = new ArrayList<>();
        for (int h = 0; h < hinges.size(); h++) {
            if (hinges.get(h).place == d) {
                list.add(h);
            }
        }
        return list;
    }

    static int bits(List<Integer> list) {
        int set = 0;
        for (int k : list) {
            set |= 1 << k;
        }
        return set;
    }

    boolean isShut(int d) {
        List<Integer> list = on(d);
        return list.size() == 2
            && hinges.get(list.get(0)).hold() + hinges.get(list.get(1)).hold() >= doors.get(d).weight;
    }

    int shutMask() {
        int set = 0;
        for (int d = 0; d < doors.size(); d++) {
            set |= isShut(d) ? 1 << d : 0;
        }
        return set;
    }

    void walk(int room, int shut, boolean[] seen) {
        if (seen[room]) {
            return;
        }
        seen[room] = true;
        for (int d = 0; d < doors.size(); d++) {
            Door door = doors.get(d);
            if ((shut >> d & 1) == 0) {
                if (door.a == room) {
                    walk(door.b, shut, seen);
                }
                if (door.b == room) {
                    walk(door.a, shut, seen);
                }
            }
        }
    }

    int reach(int from, int shut) {
        boolean[] seen = new boolean[8];
        walk(from, shut, seen);
        int set = 0;
        for (int r = 0; r < 8; r++) {
            set |= seen[r] ? 1 << r : 0;
        }
        return set;
    }

    int secretsIn(int rooms) {
        int sum = 0;
        for (int r = 1; r < 8; r++) {
            sum += (rooms >> r & 1) * secrets[r];
        }
        return sum;
    }

    int keptBy(int shut) {
        return secretsIn(254 & ~reach(0, shut));
    }

    int creak(int d) {
        int sum = 0;
        for (int h : on(d)) {
            sum += Math.max(0, Math.min(99, eval(ruleText.isEmpty() ? "r" : ruleText, h, d)));
        }
        return sum;
    }

    // ---- the rule, by splitting the text at the operator that binds least

    int eval(String e, int h, int d) {
        int at = lastOperator(e, "<>=");
        if (at < 0) {
            at = lastOperator(e, "+-");
        }
        if (at < 0) {
            at = lastOperator(e, "*/");
        }
        if (at >= 0) {
            int a = eval(e.substring(0, at), h, d);
            int b = eval(e.substring(at + 1), h, d);
            switch (e.charAt(at)) {
                case '<': return a < b ? 1 : 0;
                case '>': return a > b ? 1 : 0;
                case '=': return a == b ? 1 : 0;
                case '+': return a + b;
                case '-': return a - b;
                case '*': return a * b;
                default: return b == 0 ? 0 : a / b;
            }
        }
        if (e.charAt(0) == '-') {
            return -eval(e.substring(1), h, d);
        }
        if (e.charAt(0) == '(') {
            return eval(e.substring(1, e.length() - 1), h, d);
        }
        if (Character.isDigit(e.charAt(0))) {
            return Integer.parseInt(e);
        }
        Hinge hinge = hinges.get(h);
        switch (e.charAt(0)) {
            case 'r': return hinge.rust;
            case 's': return hinge.strength;
            case 'o': return hinge.oil;
            case 'w': return doors.get(d).weight;
            case 'n': return on(d).size();
            case 't': return days;
            case 'i': return h;
            case 'd': return d;
            case 'x': return isShut(d) ? 1 : 0;
            default: throw new AssertionError(e);
        }
    }

    static int lastOperator(String e, String which) {
        int depth = 0;
        int found = -1;
        for (int k = 0; k < e.length(); k++) {
            char c = e.charAt(k);
            depth += c == '(' ? 1 : c == ')' ? -1 : 0;
            boolean behindThing = k > 0 && "<>=+-*/(".indexOf(e.charAt(k - 1)) < 0;
            if (depth == 0 && which.indexOf(c) >= 0 && behindThing) {
                found = k;
            }
        }
        return found;
    }

    // ---- texts, sign by sign: how far one can go (and whether one may end there)

    /** -1 - p as the document tells it, or 0 if all can stand. */
    static int fault(String t, int most, Machine m) {
        int n = Math.min(t.length(), most);
        for (int p = 0; p < n; p++) {
            if (!m.step(t.charAt(p))) {
                return -1 - p;
            }
        }
        if (t.length() > most) {
            return -1 - most;
        }
        return m.mayEnd() ? 0 : -1 - n;
    }

    interface Machine {
        boolean step(char c);

        boolean mayEnd();
    }

    static boolean in(char c, String set) {
        return set.indexOf(c) >= 0;
    }

    final class HouseMachine implements Machine {
        String line = "";
        int newDoors = doors.size();
        int newHinges = hinges.size();
        final List<String> lines = new ArrayList<>();

        public boolean step(char c) {
            if (c == ';' && mayEnd()) {
                lines.add(line);
                line = "";
                return true;
            }
            boolean good;
            if (line.isEmpty()) {
                good = c == 'd' && newDoors++ < 8 || c == 'h' && newHinges++ < 12;
            } else if (line.charAt(0) == 'd') {
                good = line.length() == 1 && in(c, "01234567")
                    || line.length() == 2 && in(c, "01234567") && c != line.charAt(1)
                    || line.length() == 3 && in(c, "lr") || line.length() == 4 && in(c, "123456789");
            } else {
                good = line.length() == 1 && in(c, "lrb") || line.length() == 2 && in(c, "123456789")
                    || line.length() == 3 && c == '*' || line.length() == 4 && in(c, "0123456789");
            }
            line += c;
            return good;
        }

        public boolean mayEnd() {
            return line.startsWith("d") ? line.length() == 5
                : line.startsWith("h") && (line.length() == 3 || line.length() == 5);
        }
    }

    static final class RuleMachine implements Machine {
        int depth;
        final boolean[] compared = new boolean[5];
        boolean behindThing;
        int digits;

        public boolean step(char c) {
            int digitsBefore = digits;
            digits = 0;
            if (!behindThing) {
                if (c == '-') {
                    return true;
                }
                if (c == '(') {
                    if (depth == 4) {
                        return false;
                    }
                    depth++;
                    compared[depth] = false;
                    return true;
                }
                digits = in(c, "0123456789") ? 1 : 0;
                behindThing = true;
                return digits == 1 || in(c, "rsowntidx");
            }
            if (in(c, "0123456789")) {
                digits = digitsBefore + 1;
                return digitsBefore > 0 && digitsBefore < 3;
            }
            if (c == ')') {
                return --depth >= 0;
            }
            behindThing = false;
            if (in(c, "<>=")) {
                boolean first = !compared[depth];
                compared[depth] = true;
                return first;
            }
            return in(c, "+-*/");
        }

        public boolean mayEnd() {
            return behindThing && depth == 0;
        }
    }

    static final class OrderMachine implements Machine {
        String act = "";
        final List<String> list = new ArrayList<>();

        public boolean step(char c) {
            if (c == ';' && mayEnd()) {
                list.add(act);
                act = "";
                return true;
            }
            act += c;
            return canBegin(act);
        }

        static boolean canBegin(String s) {
            return s.matches("h|h\\d|h\\d\\d|h\\d\\d?>|h\\d\\d?>\\d|t|t\\d|t\\d\\d|o|o\\d|o\\d\\d|o\\d\\d?\\*|o\\d\\d?\\*\\d|n|n[1-9]");
        }

        public boolean mayEnd() {
            return act.matches("h\\d\\d?>\\d|t\\d\\d?|o\\d\\d?\\*\\d|n[1-9]?");
        }
    }

    // ---- the house

    int sign(int v) {
        if (text.length() + 4 > 80) {
            return -1;
        }
        text += "" + (char) (v >>> 24) + (char) (v >> 16 & 255) + (char) (v >> 8 & 255) + (char) (v & 255);
        return text.length();
    }

    boolean end(int n) {
        if (n < 0 || n > text.length()) {
            return false;
        }
        text = text.substring(0, n);
        return true;
    }

    int house() {
        String t = text;
        text = "";
        if (t.isEmpty()) {
            return 0;
        }
        HouseMachine m = new HouseMachine();
        int fault = fault(t, 76, m);
        if (fault != 0) {
            return fault;
        }
        String[] lines = t.split(";");
        for (String line : lines) {
            if (line.charAt(0) == 'd') {
                Door door = new Door();
                door.a = line.charAt(1) - '0';
                door.b = line.charAt(2) - '0';
                door.hand = line.charAt(3) == 'l' ? 0 : 1;
                door.weight = line.charAt(4) - '0';
                doors.add(door);
            } else {
                Hinge hinge = new Hinge();
                hinge.hand = "lrb".indexOf(line.charAt(1));
                hinge.strength = line.charAt(2) - '0';
                hinge.fee = line.length() > 3 ? line.charAt(4) - '0' : 1;
                hinges.add(hinge);
            }
        }
        acts.clear();
        return lines.length;
    }

    int rule() {
        String t = text;
        text = "";
        int fault = t.isEmpty() ? 0 : fault(t, 40, new RuleMachine());
        if (fault == 0) {
            ruleText = t;
        }
        return fault;
    }

    int door(int d, int what) {
        if (!isDoor(d)) {
            throw new NoSuchElementException();
        }
        Door door = doors.get(d);
        switch (what) {
            case 0: return door.a;
            case 1: return door.b;
            case 2: return door.hand;
            case 3: return door.weight;
            case 4: return bits(on(d));
            case 5: return isShut(d) ? 2 : on(d).isEmpty() ? 0 : 1;
            case 6: return creak(d);
            default: throw new NoSuchElementException();
        }
    }

    int hinge(int h, int what) {
        if (!isHinge(h)) {
            throw new NoSuchElementException();
        }
        Hinge x = hinges.get(h);
        switch (what) {
            case 0: return x.hand;
            case 1: return x.strength;
            case 2: return x.fee;
            case 3: return x.rust;
            case 4: return x.oil;
            case 5: return x.place;
            case 6: return x.hold();
            default: throw new NoSuchElementException();
        }
    }

    int secret(int room, int v) {
        if (room < 1 || room > 7 || v < 0 || v > 9) {
            return -1;
        }
        int was = secrets[room];
        secrets[room] = v;
        return was;
    }

    int sheet(int kind, int n, int f, int step) {
        if (kind < 0 || kind > 3 || n > 7) {
            return -1;
        }
        if (kind == 3) {
            Arrays.fill(secrets, 0);
            return -3;
        }
        if (n < 0) {
            return -2;
        }
        Arrays.fill(secrets, 0);
        int v = f;
        for (int r = 1; r <= n; r++) {
            long shown = kind == 0 ? (byte) v : kind == 1 ? (short) v : v;
            secrets[r] = (int) (shown < 0 ? 0 : shown > 9 ? 9 : shown);
            v += step;
        }
        return secretsIn(254);
    }

    // ---- hung and let

    int doHang(int h, int d) {
        if (!isHinge(h) || !isDoor(d)) {
            return -1;
        }
        if (hinges.get(h).place >= 0) {
            return -2;
        }
        if (!fits(hinges.get(h), d)) {
            return -3;
        }
        if (on(d).size() >= 2) {
            return -4;
        }
        hinges.get(h).place = d;
        return on(d).size();
    }

    int doTake(int h) {
        if (!isHinge(h)) {
            return -1;
        }
        int d = hinges.get(h).place;
        hinges.get(h).place = -1;
        return d < 0 ? -2 : d;
    }

    int doOil(int h, int n) {
        if (!isHinge(h) || n < 1 || n > 9) {
            return -1;
        }
        hinges.get(h).oil = Math.max(hinges.get(h).oil, n);
        return hinges.get(h).oil;
    }

    int doDay() {
        int paid = 0;
        for (Hinge h : hinges) {
            if (h.place >= 0) {
                paid += h.fee;
                if (h.oil > 0) {
                    h.oil--;
                } else if (h.rust < 9) {
                    h.rust++;
                }
            }
        }
        till += paid;
        days++;
        return paid;
    }

    int hang(int h, int d) {
        State before = state();
        int answer = doHang(h, d);
        if (answer >= 0) {
            remember(before);
        }
        return answer;
    }

    int take(int h) {
        State before = state();
        int answer = doTake(h);
        if (answer >= 0) {
            remember(before);
        }
        return answer;
    }

    int oil(int h, int n) {
        State before = state();
        int answer = doOil(h, n);
        if (answer >= 0) {
            remember(before);
        }
        return answer;
    }

    boolean bend(int h) {
        if (!isHinge(h) || hinges.get(h).hand == 2) {
            return false;
        }
        remember(state());
        hinges.get(h).hand = 2;
        return true;
    }

    int day() {
        return days(1);
    }

    int days(int n) {
        if (n < 0 || n > 60) {
            return -1;
        }
        if (n > 0) {
            remember(state());
        }
        int before = shutMask();
        int paid = 0;
        for (int k = 0; k < n; k++) {
            paid += doDay();
        }
        tell(before & ~shutMask());
        return paid;
    }

    int gale(int seed, int g) {
        if (g < 1 || g > 19) {
            return -1;
        }
        remember(state());
        int shut = shutMask();
        List<Integer> fallen = new ArrayList<>();
        int r = seed;
        for (int d = 0; d < doors.size(); d++) {
            if ((shut >> d & 1) == 0) {
                for (int h : on(d)) {
                    r = r * 1103515245 + 12345;
                    long unsigned = r & 0xFFFFFFFFL;
                    if (unsigned / 65536 % g > hinges.get(h).hold()) {
                        fallen.add(h);
                    }
                }
            }
        }
        for (int h : fallen) {
            hinges.get(h).place = -1;
            hinges.get(h).rust = Math.min(9, hinges.get(h).rust + 2);
        }
        return bits(fallen);
    }

    int order() {
        String t = text;
        text = "";
        int fault = t.isEmpty() ? 0 : fault(t, 60, new OrderMachine());
        if (fault != 0) {
            return fault;
        }
        State before = state();
        int done = 0;
        int refused = 0;
        int tillBefore = till;
        for (String act : t.isEmpty() ? new String[0] : t.split(";")) {
            int answer = 0;
            String[] parts = act.substring(1).split("[>*]");
            int first = parts[0].isEmpty() ? 1 : Integer.parseInt(parts[0]);
            switch (act.charAt(0)) {
                case 'h':
                    answer = doHang(first, Integer.parseInt(parts[1]));
                    break;
                case 't':
                    answer = doTake(first);
                    break;
                case 'o':
                    answer = doOil(first, Integer.parseInt(parts[1]));
                    break;
                default:
                    for (int k = 0; k < first; k++) {
                        doDay();
                    }
            }
            if (answer < 0) {
                refused = 1;
                break;
            }
            done++;
        }
        if (done > 0) {
            remember(before);
        }
        tell(refused, till - tillBefore);
        return done;
    }

    int undo() {
        if (acts.isEmpty()) {
            return -1;
        }
        restore(acts.removeLast());
        return acts.size();
    }

    // ---- what is shut

    int shut() {
        int swings = 0;
        int leans = 0;
        for (int d = 0; d < doors.size(); d++) {
            if (!isShut(d)) {
                if (on(d).isEmpty()) {
                    leans |= 1 << d;
                } else {
                    swings |= 1 << d;
                }
            }
        }
        tell(shutMask(), swings, leans);
        return Integer.bitCount(shutMask());
    }

    int thief(int from) {
        if (from < 0 || from > 7) {
            return -1;
        }
        int rooms = reach(from, shutMask());
        tell(secretsIn(rooms));
        return rooms;
    }

    int kept() {
        tell(254 & ~reach(0, shutMask()));
        return keptBy(shutMask());
    }

    List<Integer> quietest;
    int quietSum;

    void searchQuiet(int here, int goal, int sum, int seen, List<Integer> way) {
        if (here == goal) {
            List<Integer> w = new ArrayList<>(way);
            boolean better = quietest == null || sum < quietSum
                || sum == quietSum && (w.size() < quietest.size()
                || w.size() == quietest.size() && compare(w, quietest) < 0);
            if (better) {
                quietest = w;
                quietSum = sum;
            }
            return;
        }
        for (int d = 0; d < doors.size(); d++) {
            Door door = doors.get(d);
            if (!isShut(d) && (door.a == here || door.b == here)) {
                int there = door.a == here ? door.b : door.a;
                if ((seen >> there & 1) == 0) {
                    way.add(d);
                    searchQuiet(there, goal, sum + creak(d), seen | 1 << there, way);
                    way.remove(way.size() - 1);
                }
            }
        }
    }

    static int compare(List<Integer> x, List<Integer> y) {
        for (int k = 0; k < x.size() && k < y.size(); k++) {
            if (!x.get(k).equals(y.get(k))) {
                return x.get(k) - y.get(k);
            }
        }
        return x.size() - y.size();
    }

    int quiet(int room) {
        if (room < 0 || room > 7) {
            return -1;
        }
        quietest = null;
        searchQuiet(0, room, 0, 1, new ArrayList<>());
        if (quietest == null) {
            return -2;
        }
        tell();
        for (int d : quietest) {
            row.add((long) d);
        }
        return quietSum;
    }

    int lasts(int room) {
        if (room < 1 || room > 7) {
            return -1;
        }
        State before = state();
        int answer = -2;
        for (int k = 0; k <= 60 && answer == -2; k++) {
            if ((reach(0, shutMask()) >> room & 1) == 1) {
                answer = k;
            }
            doDay();
        }
        restore(before);
        return answer;
    }

    int rent(int n) {
        if (n < 0 || n > 99) {
            return -1;
        }
        tell();
        int sum = 0;
        for (int d = 0; d < doors.size(); d++) {
            int paid = 0;
            for (int h : on(d)) {
                paid += hinges.get(h).fee * n;
            }
            row.add((long) paid);
            sum += paid;
        }
        return sum;
    }

    int rusts(int d) {
        if (!isDoor(d)) {
            return -1;
        }
        if (on(d).size() != 2) {
            return -3;
        }
        State before = state();
        for (int h : on(d)) {
            hinges.get(h).oil = 0;
        }
        int answer = -2;
        for (int k = 0; k <= 60 && answer == -2; k++) {
            if (!isShut(d)) {
                answer = k;
            }
            doDay();
        }
        restore(before);
        return answer;
    }

    int wall(int room) {
        if (room < 1 || room > 7) {
            return -1;
        }
        for (int many = 0; many <= doors.size(); many++) {
            for (int mask = 0; mask < 1 << doors.size(); mask++) {
                if (Integer.bitCount(mask) == many && (reach(0, mask) >> room & 1) == 0) {
                    tell(mask);
                    return many;
                }
            }
        }
        throw new AssertionError();
    }

    int guard(int v) {
        if (v < 0 || v > 63) {
            return -1;
        }
        for (int many = 0; many <= doors.size(); many++) {
            for (int mask = 0; mask < 1 << doors.size(); mask++) {
                if (Integer.bitCount(mask) == many && keptBy(mask) >= v) {
                    tell(mask, keptBy(mask));
                    return many;
                }
            }
        }
        return -2;
    }

    // ---- hangings

    boolean shuts(int i, int j, int d) {
        return fits(hinges.get(i), d) && fits(hinges.get(j), d)
            && hinges.get(i).hold() + hinges.get(j).hold() >= doors.get(d).weight;
    }

    /** The least row by which these doors are shut, or null. */
    int[] leastHanging(int mask, int d, int used) {
        if (d == doors.size()) {
            return new int[d];
        }
        if ((mask >> d & 1) == 0) {
            return leastHanging(mask, d + 1, used);
        }
        for (int set = 0; set < 1 << hinges.size(); set++) {
            if (Integer.bitCount(set) == 2 && (set & used) == 0) {
                int i = Integer.numberOfTrailingZeros(set);
                int j = 31 - Integer.numberOfLeadingZeros(set);
                if (shuts(i, j, d)) {
                    int[] rest = leastHanging(mask, d + 1, used | set);
                    if (rest != null) {
                        rest[d] = set;
                        return rest;
                    }
                }
            }
        }
        return null;
    }

    void tellHanging(int[] hanging) {
        for (int set : hanging) {
            row.add((long) set);
        }
    }

    int[] hangingOf(int mask) {
        return 2 * Integer.bitCount(mask) > hinges.size() ? null : leastHanging(mask, 0, 0);
    }

    int all(int those) {
        if ((those & ~((1 << doors.size()) - 1)) != 0) {
            return -1;
        }
        int[] hanging = hangingOf(those);
        if (hanging == null) {
            return -2;
        }
        tell();
        tellHanging(hanging);
        return hinges.size() - 2 * Integer.bitCount(those);
    }

    int most() {
        for (int many = doors.size(); many >= 0; many--) {
            for (int mask = 0; mask < 1 << doors.size(); mask++) {
                if (Integer.bitCount(mask) == many && hangingOf(mask) != null) {
                    tell(mask);
                    return many;
                }
            }
        }
        throw new AssertionError();
    }

    int best() {
        for (int v = 63; v >= 0; v--) {
            for (int many = 0; many <= doors.size(); many++) {
                for (int mask = 0; mask < 1 << doors.size(); mask++) {
                    if (Integer.bitCount(mask) == many && keptBy(mask) == v) {
                        int[] hanging = hangingOf(mask);
                        if (hanging != null) {
                            tell(mask);
                            tellHanging(hanging);
                            return v;
                        }
                    }
                }
            }
        }
        throw new AssertionError();
    }

    int cheapRent;
    long[] cheapRow;

    void searchCheap(int v, int mask, int d, int used, int paid, long[] hanging) {
        if (d == doors.size()) {
            hanging[0] = mask;
            if (paid < cheapRent || paid == cheapRent && Arrays.compare(hanging, cheapRow) < 0) {
                cheapRent = paid;
                cheapRow = hanging.clone();
            }
            return;
        }
        hanging[d + 1] = 0;
        if ((mask >> d & 1) == 0) {
            searchCheap(v, mask, d + 1, used, paid, hanging);
            return;
        }
        for (int i = 0; i < hinges.size(); i++) {
            for (int j = i + 1; j < hinges.size(); j++) {
                int set = 1 << i | 1 << j;
                if ((set & used) == 0 && shuts(i, j, d)) {
                    hanging[d + 1] = set;
                    searchCheap(v, mask, d + 1, used | set, paid + hinges.get(i).fee + hinges.get(j).fee, hanging);
                }
            }
        }
    }

    int cheap(int v) {
        if (v < 0 || v > 63) {
            return -1;
        }
        cheapRent = Integer.MAX_VALUE;
        cheapRow = null;
        for (int mask = 0; mask < 1 << doors.size(); mask++) {
            if (keptBy(mask) >= v && 2 * Integer.bitCount(mask) <= hinges.size()) {
                searchCheap(v, mask, 0, 0, 0, new long[doors.size() + 1]);
            }
        }
        if (cheapRow == null) {
            return -2;
        }
        tell(cheapRow);
        return cheapRent;
    }

    int changeLeast;
    long[] changeRow;

    void searchChange(int v, int h, State before) {
        if (h == hinges.size()) {
            if (keptBy(shutMask()) < v) {
                return;
            }
            int moved = 0;
            for (int k = 0; k < h; k++) {
                moved += hinges.get(k).place != before.hinges.get(k).place ? 1 : 0;
            }
            long[] hanging = new long[doors.size()];
            for (int d = 0; d < doors.size(); d++) {
                hanging[d] = bits(on(d));
            }
            if (moved < changeLeast || moved == changeLeast && Arrays.compare(hanging, changeRow) < 0) {
                changeLeast = moved;
                changeRow = hanging;
            }
            return;
        }
        Hinge hinge = hinges.get(h);
        for (int d = -1; d < doors.size(); d++) {
            hinge.place = -1;
            if (d < 0 || fits(hinge, d) && below(d, h) < 2) {
                hinge.place = d;
                searchChange(v, h + 1, before);
            }
        }
    }

    int below(int d, int h) {
        int many = 0;
        for (int k = 0; k < h; k++) {
            many += hinges.get(k).place == d ? 1 : 0;
        }
        return many;
    }

    int change(int v) {
        if (v < 0 || v > 63) {
            return -1;
        }
        if (hinges.size() > 8 || doors.size() > 4) {
            return -3;
        }
        State before = state();
        changeLeast = Integer.MAX_VALUE;
        changeRow = null;
        searchChange(v, 0, before);
        restore(before);
        if (changeRow == null) {
            return -2;
        }
        tell(changeRow);
        return changeLeast;
    }

    int next() {
        int found = -2;
        int most = -1;
        int onto = -1;
        for (int h = 0; h < hinges.size(); h++) {
            for (int d = 0; d < doors.size(); d++) {
                if (doHang(h, d) >= 0) {
                    int safe = keptBy(shutMask());
                    if (safe > most) {
                        most = safe;
                        found = h;
                        onto = d;
                    }
                    doTake(h);
                }
            }
        }
        if (found >= 0) {
            tell(onto, most);
        }
        return found;
    }

    int spare() {
        int found = -2;
        int most = -1;
        for (int h = 0; h < hinges.size(); h++) {
            int d = hinges.get(h).place;
            if (d >= 0) {
                hinges.get(h).place = -1;
                int safe = keptBy(shutMask());
                hinges.get(h).place = d;
                if (safe > most || safe == most && hinges.get(h).fee > hinges.get(found).fee) {
                    most = safe;
                    found = h;
                }
            }
        }
        if (found >= 0) {
            tell(most);
        }
        return found;
    }

    // ---- gales

    int risk(int g) {
        if (g < 1 || g > 19) {
            return -1;
        }
        int falling = 0;
        java.math.BigInteger upper = java.math.BigInteger.ONE;
        java.math.BigInteger lower = java.math.BigInteger.ONE;
        for (int h = 0; h < hinges.size(); h++) {
            int d = hinges.get(h).place;
            if (d >= 0 && !isShut(d)) {
                int stays = 0;
                for (int draw = 0; draw < g; draw++) {
                    stays += draw > hinges.get(h).hold() ? 0 : 1;
                }
                falling |= stays < g ? 1 << h : 0;
                upper = upper.multiply(java.math.BigInteger.valueOf(stays));
                lower = lower.multiply(java.math.BigInteger.valueOf(g));
            }
        }
        java.math.BigInteger common = upper.gcd(lower);
        tell(upper.divide(common).longValueExact(), lower.divide(common).longValueExact());
        return falling;
    }

    int stands() {
        List<Long> before = row;
        int answer = 0;
        for (int g = 1; g <= 19; g++) {
            answer = risk(g) == 0 ? g : answer;
        }
        row = before;
        return answer;
    }

    // ---- creaks

    int heard(int creak) {
        if (creak < 0 || creak > 198 || heard.size() == 12) {
            return -1;
        }
        heard.add(creak);
        return heard.size();
    }

    int forget() {
        int many = heard.size();
        heard.clear();
        return many;
    }

    final List<List<Integer>> wayDoors = new ArrayList<>();
    final List<List<Integer>> wayRooms = new ArrayList<>();

    void searchWays(int room, List<Integer> through, List<Integer> rooms) {
        int k = through.size();
        if (k == heard.size()) {
            wayDoors.add(new ArrayList<>(through));
            wayRooms.add(new ArrayList<>(rooms));
            return;
        }
        for (int d = 0; d < doors.size(); d++) {
            Door door = doors.get(d);
            if ((door.a == room || door.b == room) && !isShut(d) && creak(d) == heard.get(k)) {
                int there = door.a == room ? door.b : door.a;
                through.add(d);
                rooms.add(there);
                searchWays(there, through, rooms);
                through.remove(k);
                rooms.remove(k + 1);
            }
        }
    }

    void findWays() {
        wayDoors.clear();
        wayRooms.clear();
        List<Integer> rooms = new ArrayList<>();
        rooms.add(0);
        searchWays(0, new ArrayList<>(), rooms);
    }

    int ways() {
        findWays();
        tell(0);
        List<Integer> least = null;
        int ends = 0;
        for (int w = 0; w < wayDoors.size(); w++) {
            ends |= 1 << wayRooms.get(w).get(heard.size());
            if (least == null || compare(wayDoors.get(w), least) < 0) {
                least = wayDoors.get(w);
            }
        }
        tell(ends);
        if (least != null) {
            for (int d : least) {
                row.add((long) d);
            }
        }
        return Math.min(1000000, wayDoors.size());
    }

    int been(int k) {
        if (k < 0 || k > heard.size()) {
            return -1;
        }
        findWays();
        int set = 0;
        for (List<Integer> rooms : wayRooms) {
            set |= 1 << rooms.get(k);
        }
        return set;
    }

    int sure() {
        findWays();
        if (wayDoors.isEmpty()) {
            return -2;
        }
        int inAll = -1;
        int inSome = 0;
        for (List<Integer> through : wayDoors) {
            inAll &= bits(through);
            inSome |= bits(through);
        }
        tell(inSome);
        return inAll;
    }

    int behind(int d, int creak) {
        if (!isDoor(d) || creak < 0 || creak > 198) {
            return -1;
        }
        if (!on(d).isEmpty()) {
            return -2;
        }
        int many = 0;
        int least = -1;
        for (int set = 1; set < 1 << hinges.size(); set++) {
            if (Integer.bitCount(set) <= 2) {
                State before = state();
                boolean good = true;
                for (int h = 0; h < hinges.size(); h++) {
                    good &= (set >> h & 1) == 0 || doHang(h, d) >= 0;
                }
                if (good && creak(d) == creak) {
                    many++;
                    least = least < 0 ? set : least;
                }
                restore(before);
            }
        }
        tell(least);
        return many;
    }

    // ---- bidding, rings

    int bid(int h) {
        if (!isHinge(h)) {
            return -1;
        }
        Hinge hinge = hinges.get(h);
        if (hinge.place >= 0) {
            return -3;
        }
        int price = 0;
        int last = -2;
        int passed = 0;
        for (int turn = 0; passed < doors.size(); turn++) {
            int d = turn % doors.size();
            int worth = doors.get(d).weight;
            for (int k : on(d)) {
                worth -= hinges.get(k).hold();
            }
            if (d != last && fits(hinge, d) && on(d).size() < 2 && !isShut(d) && price + 1 <= Math.max(0, worth)) {
                price++;
                last = d;
                passed = 0;
            } else {
                passed++;
            }
        }
        if (last >= 0) {
            tell(price);
        }
        return last;
    }

    int rings() {
        int n = hinges.size();
        int[] after = new int[n];
        for (int h = 0; h < n; h++) {
            after[h] = -1;
            Hinge hinge = hinges.get(h);
            if (hinge.place >= 0) {
                int wish = -1;
                for (int d = doors.size() - 1; d >= 0; d--) {
                    if (d != hinge.place && fits(hinge, d) && (wish < 0 || doors.get(d).weight >= doors.get(wish).weight)) {
                        wish = d;
                    }
                }
                if (wish >= 0 && !on(wish).isEmpty()) {
                    after[h] = on(wish).get(0);
                }
            }
        }
        List<Integer> seenRings = new ArrayList<>();
        int members = 0;
        for (int h = 0; h < n; h++) {
            int ring = 0;
            int k = h;
            for (int step = 0; step <= n && k >= 0; step++) {
                ring |= 1 << k;
                k = after[k];
                if (k == h) {
                    members |= 1 << h;
                    if (!seenRings.contains(ring)) {
                        seenRings.add(ring);
                    }
                    break;
                }
            }
        }
        tell(members, seenRings.size());
        return Integer.bitCount(members);
    }

    // ---- kept

    boolean keep(int i) {
        if (i < 0 || i > 2) {
            return false;
        }
        shelves[i] = state();
        return true;
    }

    boolean again(int i) {
        if (i < 0 || i > 2 || shelves[i] == null
            || shelves[i].doorCount != doors.size() || shelves[i].hinges.size() != hinges.size()) {
            return false;
        }
        restore(shelves[i]);
        acts.clear();
        return true;
    }

    int count(int what) {
        switch (what) {
            case 0: return doors.size();
            case 1: return hinges.size();
            case 2: return days;
            case 3: return till;
            case 4: return bits(on(-1));
            case 5: return secretsIn(254);
            case 6: return acts.size();
            case 7: return heard.size();
            case 8: return row.size();
            case 9: return text.length();
            default: return -100;
        }
    }

    long row(int i) {
        if (i < 0 || i >= row.size()) {
            throw new NoSuchElementException();
        }
        return row.get(i);
    }
}
