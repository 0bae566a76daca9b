import java.lang.management.ManagementFactory;
import java.lang.reflect.Array;
import java.lang.reflect.Field;
import java.lang.reflect.Modifier;
import java.nio.charset.StandardCharsets;
import java.util.ArrayDeque;
import java.util.Collections;
import java.util.Deque;
import java.util.IdentityHashMap;
import java.util.NoSuchElementException;
import java.util.Random;
import java.util.Set;

/**
 * What an object needs of the one room: counted from the object itself; and that calls make nothing
 * more, whatever is asked, and throw nothing but the exception of octet().
 */
public final class HeardVotesRoom {
    private static final int MOST_OBJECTS = 100;
    private static final int MOST_ELEMENTS = 12000;
    private static final int[] EDGES = {Integer.MIN_VALUE, Integer.MIN_VALUE + 1, -1000, -61, -13, -6, -5, -3, -2, -1, 0,
        1, 2, 3, 4, 5, 6, 7, 8, 9, 10, 11, 12, 13, 47, 48, 49, 59, 60, 61, 99, 100, 200, 201, 599, 600, 601, 999, 1000,
        Integer.MAX_VALUE / 5, Integer.MAX_VALUE / 12, Integer.MAX_VALUE - 1, Integer.MAX_VALUE};
    private static final String[] FULL = {fullText(3), fullText(2), fullText(1)};

    private static int wrong = 0;

    public static void main(String[] args) {
        countTheObject(new HeardVotes());
        callsMakeNothing();
        System.out.println(wrong == 0 ? "the room is kept" : wrong + " faults of room");
        if (wrong != 0) {
            System.exit(1);
        }
    }

    private static String fullText(int letters) {
        StringBuilder text = new StringBuilder();
        Random random = new Random(letters);
        for (int h = 0; h < 5; h++) {
            text.append(h > 0 ? ";" : "").append((char) ('p' + h)).append(" weight 99:");
            for (int i = 0; i < 12; i++) {
                for (int k = 0; k < letters; k++) {
                    text.append((char) ('a' + random.nextInt(26)));
                }
                text.append(80 * i + h);
            }
        }
        return text.toString();
    }

    private static void countTheObject(HeardVotes x) {
        Set<Object> seen = Collections.newSetFromMap(new IdentityHashMap<>());
        Deque<Object> todo = new ArrayDeque<>();
        todo.add(x);
        seen.add(x);
        long elements = 0;
        while (!todo.isEmpty()) {
            Object one = todo.remove();
            if (one.getClass().isArray()) {
                elements += Array.getLength(one);
                if (one instanceof Object[] many) {
                    for (Object part : many) {
                        if (seen.add(part)) {
                            todo.add(part);
                        }
                    }
                }
                continue;
            }
            for (Field field : one.getClass().getDeclaredFields()) {
                if (Modifier.isStatic(field.getModifiers())) {
                    continue;
                }
                elements++;
                field.setAccessible(true);
                Object part = valueOf(field, one);
                if (!field.getType().isPrimitive() && seen.add(part)) {
                    todo.add(part);
                }
            }
        }
        System.out.println("an object: " + seen.size() + " objects and arrays, " + elements + " fields and elements");
        if (seen.size() > MOST_OBJECTS || elements > MOST_ELEMENTS) {
            wrong++;
        }
    }

    private static Object valueOf(Field field, Object of) {
        try {
            return field.get(of);
        } catch (IllegalAccessException e) {
            throw new IllegalStateException(e);
        }
    }

    private static void callsMakeNothing() {
        com.sun.management.ThreadMXBean bean = (com.sun.management.ThreadMXBean) ManagementFactory.getThreadMXBean();
        long id = Thread.currentThread().getId();
        Random random = new Random(5);
        long most = 0;
        for (int run = 0; run < 300; run++) {
            HeardVotes x = new HeardVotes();
            byte[][] texts = new byte[FULL.length][];
            for (int k = 0; k < FULL.length; k++) {
                texts[k] = FULL[k].getBytes(StandardCharsets.ISO_8859_1);
            }
            long before = bean.getThreadAllocatedBytes(id);
            for (int call = 0; call < 512; call++) {
                if (call == 0 || random.nextInt(200) == 0) {
                    tell(x, texts[random.nextInt(texts.length)]);
                }
                anyCall(x, random);
            }
            most = Math.max(most, bean.getThreadAllocatedBytes(id) - before);
        }
        System.out.println("512 calls: " + most + " bytes at the most");
        // an exception of octet() is an object with its trace; nothing else is made
        if (most > 200000) {
            wrong++;
        }
    }

    private static void tell(HeardVotes x, byte[] bytes) {
        x.text(0);
        for (int from = 0; from < bytes.length; from += 20) {
            x.feed(four(bytes, from), four(bytes, from + 4), four(bytes, from + 8), four(bytes, from + 12),
                    four(bytes, from + 16));
        }
        if (x.text(bytes.length) != 5) {
            wrong++;
            System.out.println("a text that was refused: " + new String(bytes, StandardCharsets.ISO_8859_1));
        }
    }

    private static int four(byte[] bytes, int from) {
        int all = 0;
        for (int k = from; k < from + 4; k++) {
            all = all << 8 | (k < bytes.length ? bytes[k] & 255 : 32);
        }
        return all;
    }

    private static int edge(Random random) {
        return random.nextInt(3) == 0 ? EDGES[random.nextInt(EDGES.length)] : random.nextInt(6);
    }

    private static void anyCall(HeardVotes x, Random random) {
        int a = edge(random);
        int b = edge(random);
        int c = edge(random);
        int which = random.nextInt(40);
        try {
            if (which < 14) {
                actCall(x, which, a, b, c);
            } else {
                askCall(x, which, a, b, c);
            }
        } catch (NoSuchElementException e) {
            if (which != 38) {
                throw e;
            }
        }
    }

    private static void actCall(HeardVotes x, int which, int a, int b, int c) {
        switch (which) {
            case 0 -> x.costs(a, b, c);
            case 1 -> x.costs(1, 1, 9);
            case 2 -> x.window(a);
            case 3 -> x.share(a);
            case 4 -> x.weight(a, b);
            case 5, 6, 7 -> x.join(a);
            case 8 -> x.joinAll(a);
            case 9 -> x.drop(a);
            case 10 -> x.weigh();
            case 11 -> x.undo();
            case 12 -> x.share(0);
            default -> x.joinAll(2);
        }
    }

    private static void askCall(HeardVotes x, int which, int a, int b, int c) {
        switch (which) {
            case 14 -> x.about(a);
            case 15 -> x.hearing(a, b);
            case 16 -> x.word(a, b, c);
            case 17 -> x.letter(a, b);
            case 18 -> x.far(a, b);
            case 19 -> x.between(a, b);
            case 20, 21 -> x.slot(a, b);
            case 22 -> x.at(a, b);
            case 23, 24 -> x.choice(a, b, c);
            case 25 -> x.doubt(a, b);
            case 26 -> x.doubtful(a);
            case 27, 28 -> x.heard(a, b);
            case 29 -> x.errors(a);
            case 30 -> x.cost(a);
            case 31, 32 -> x.way(a, b);
            case 33 -> x.without(a);
            case 34 -> x.best(a);
            case 35 -> x.write();
            case 36 -> x.feed(a, b, c, a, b);
            case 37 -> x.text(a);
            case 38 -> x.octet(a);
            default -> x.fault();
        }
    }
}
