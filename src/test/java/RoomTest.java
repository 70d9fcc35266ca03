import java.lang.reflect.Array;
import java.lang.reflect.Field;
import java.lang.reflect.Modifier;
import java.util.ArrayDeque;
import java.util.Collections;
import java.util.Deque;
import java.util.IdentityHashMap;
import java.util.Random;
import java.util.Set;

/** What an object takes of the room, that its calls take nothing more, and that the dearest of them end soon. */
public final class RoomTest {
    private static int wrong = 0;

    public static void main(String[] args) throws IllegalAccessException {
        HingesOnHire x = new HingesOnHire();
        long[] before = size(x);
        hold(before[0] <= 80, "objects: " + before[0]);
        hold(before[1] <= 9000, "fields and elements: " + before[1]);
        long start = System.nanoTime();
        dearestCalls(x);
        long spent = (System.nanoTime() - start) / 1000000;
        hold(spent < 60000, "440 of the dearest calls took " + spent + " ms");
        long[] after = size(x);
        hold(before[0] == after[0] && before[1] == after[1], "the object grew to " + after[0] + ", " + after[1]);
        wildCalls();
        System.out.println("RoomTest: " + before[0] + " objects, " + before[1] + " fields and elements, " + wrong + " wrong");
        if (wrong != 0) {
            System.exit(1);
        }
    }

    private static void hold(boolean good, String what) {
        if (!good) {
            wrong++;
            System.out.println("RoomTest: " + what);
        }
    }

    /** Objects and arrays that can be got to, and their fields and elements. */
    private static long[] size(Object root) throws IllegalAccessException {
        Set<Object> seen = Collections.newSetFromMap(new IdentityHashMap<>());
        Deque<Object> open = new ArrayDeque<>();
        open.add(root);
        long fields = 0;
        while (!open.isEmpty()) {
            Object o = open.remove();
            if (!seen.add(o)) {
                continue;
            }
            if (o.getClass().isArray()) {
                fields += Array.getLength(o);
                continue;
            }
            for (Field f : o.getClass().getDeclaredFields()) {
                if (!Modifier.isStatic(f.getModifiers())) {
                    fields++;
                    f.setAccessible(true);
                    Object v = f.get(o);
                    if (v != null && !f.getType().isPrimitive()) {
                        open.add(v);
                    }
                }
            }
        }
        return new long[] {seen.size(), fields};
    }

    private static void text(HingesOnHire x, String text) {
        for (int v : Asked.packed(text)) {
            x.sign(v);
        }
        x.end(text.length());
    }

    private static void dearestCalls(HingesOnHire x) {
        text(x, "d01l3;d02l4;d03l6;d04l1;d05l3;d06l1;d07r7;d01l1");
        x.house();
        text(x, "hl5*3;hb5*7;hb6*6;hb8*8;hb1*3;hb9*3;hl5*0;hr3*7;hb7*9;hl7*7;hl6*4;hl2*2");
        x.house();
        x.sheet(2, 7, 9, -1);
        for (int k = 0; k < 110; k++) {
            x.cheap(15 + k % 30);
            x.best();
            x.most();
            x.all(k);
        }
    }

    /** Any numbers in any state: a call throws what the document names, and nothing else. */
    private static void wildCalls() {
        Random random = new Random(7);
        for (int run = 0; run < 400; run++) {
            HingesOnHire x = new HingesOnHire();
            // A text takes some seven calls, and one in nine is a text.
            for (int call = 0; call < 200; call++) {
                try {
                    wildCall(x, random, random.nextInt(52));
                } catch (RuntimeException e) {
                    hold(false, "a call threw " + e);
                }
            }
        }
    }

    private static int wild(Random random) {
        switch (random.nextInt(8)) {
            case 0:
                return random.nextInt();
            case 1:
                return random.nextBoolean() ? Integer.MIN_VALUE : Integer.MAX_VALUE;
            case 2:
                return -random.nextInt(5);
            default:
                return random.nextInt(13);
        }
    }

    private static void wildCall(HingesOnHire x, Random random, int which) {
        int a = wild(random);
        int b = wild(random);
        switch (which) {
            case 0: x.sign(a); break;
            case 1: x.end(a); break;
            case 2: x.house(); break;
            case 3: x.rule(); break;
            case 4: asDocumented(() -> x.door(a, b)); break;
            case 5: asDocumented(() -> x.hinge(a, b)); break;
            case 6: x.secret(a, b); break;
            case 7: x.sheet(a, b, wild(random), wild(random)); break;
            case 8: x.hang(a, b); break;
            case 9: x.take(a); break;
            case 10: x.oil(a, b); break;
            case 11: x.bend(a); break;
            case 12: x.day(); break;
            case 13: x.days(a); break;
            case 14: x.gale(a, b); break;
            case 15: x.order(); break;
            case 16: x.undo(); break;
            case 17: x.shut(); break;
            case 18: x.thief(a); break;
            case 19: x.kept(); break;
            case 20: x.quiet(a); break;
            case 21: x.lasts(a); break;
            case 22: x.rent(a); break;
            case 23: x.rusts(a); break;
            case 24: x.wall(a); break;
            case 25: x.guard(a); break;
            case 26: x.all(a); break;
            case 27: x.most(); break;
            case 28: x.best(); break;
            case 29: x.cheap(a); break;
            case 30: x.change(a); break;
            case 31: x.next(); break;
            case 32: x.spare(); break;
            case 33: x.risk(a); break;
            case 34: x.stands(); break;
            case 35: x.heard(a); break;
            case 36: x.forget(); break;
            case 37: x.ways(); break;
            case 38: x.been(a); break;
            case 39: x.sure(); break;
            case 40: x.behind(a, b); break;
            case 41: x.bid(a); break;
            case 42: x.rings(); break;
            case 43: x.keep(a); break;
            case 44: x.again(a); break;
            case 45: x.count(a); break;
            case 46: asDocumented(() -> x.row(a)); break;
            default: wildText(x, random); break;
        }
    }

    private static void asDocumented(Runnable call) {
        try {
            call.run();
        } catch (java.util.NoSuchElementException e) {
            // The document asks for it where there is none such; PromiseTest says where.
        }
    }

    private static void wildText(HingesOnHire x, Random random) {
        String[] texts = {"d01l5;d12r3;hb9;hl4", "hr3*0;hb2", "d27l1", "h1>0;n3;o1*4", "n9;n9", "r*s+t", "((r<s)*9-d)/n",
            "h0>1;h1>1;h2>0;h3>0", "99*99*99*99*99*99", "0-x*i/(o-o)"};
        x.end(0);
        text(x, texts[random.nextInt(texts.length)]);
        switch (random.nextInt(3)) {
            case 0: x.house(); break;
            case 1: x.rule(); break;
            default: x.order(); break;
        }
    }
}
