import java.lang.reflect.Method;
import java.util.ArrayList;
import java.util.Arrays;
import java.util.Collections;
import java.util.List;
import java.util.Map;
import java.util.Random;
import java.util.TreeMap;

/** All promises: long drawn runs of calls, each answer compared with that of PlainWires. */
public final class ModelTest {
    private static final int RUNS = 1500;
    private static final int MOST_CALLS = 512;

    /** What each number of a call is: it is drawn so that it is mostly, but not always, as told. */
    private static final Map<String, String> NUMBERS = new TreeMap<>(Map.ofEntries(
            Map.entry("wires", "n"), Map.entry("gate", "kwww"), Map.entry("of", "g5"), Map.entry("does", "gs"),
            Map.entry("type", "l"), Map.entry("circuit", ""), Map.entry("count", "7"), Map.entry("step", "p"),
            Map.entry("back", "p"), Map.entry("home", ""), Map.entry("flip", "w"), Map.entry("kill", "g"),
            Map.entry("heal", "g"), Map.entry("move", "gg"), Map.entry("drift", "d"), Map.entry("undo", ""),
            Map.entry("seed", "v"), Map.entry("goes", "s2"), Map.entry("far", "sr"), Map.entry("ring", "s"),
            Map.entry("rings", "3"), Map.entry("order", ""), Map.entry("odd", ""), Map.entry("alike", "gg"),
            Map.entry("pair", ""), Map.entry("hangs", "w2"), Map.entry("way", "ssm"), Map.entry("reach", "s"),
            Map.entry("shows", "s"), Map.entry("telling", "2"), Map.entry("likely", "wt2"), Map.entry("image", ""),
            Map.entry("restore", ""), Map.entry("came", "Gshjie"), Map.entry("film", "sfhji"),
            Map.entry("sheet", "hjz"), Map.entry("drop", "h"), Map.entry("item", "hjiV"), Map.entry("copy", "hihiz")));

    private static final Map<String, Method> MIRROR = methods(MirrorWires.class);
    private static final Map<String, Method> PLAIN = methods(PlainWires.class);

    private final Random random;
    private final MirrorWires x = new MirrorWires();
    private final PlainWires plain = new PlainWires();
    private final List<String> told = new ArrayList<>();
    private int wrong;

    private ModelTest(long seed) {
        random = new Random(seed);
    }

    public static void main(String[] args) {
        int bad = 0;
        long calls = 0;
        for (int run = 0; run < RUNS; run++) {
            ModelTest test = new ModelTest(run);
            test.play();
            calls += test.told.size();
            bad += test.wrong;
            if (bad > 5) {
                break;
            }
        }
        Script.due("answers unlike those of PlainWires", bad, 0);
        Script.due("calls of the face that are drawn", NUMBERS.size(), MIRROR.size());
        System.out.println(calls + " calls");
        Script.end();
    }

    private static Map<String, Method> methods(Class<?> of) {
        Map<String, Method> all = new TreeMap<>();
        for (Method method : of.getDeclaredMethods()) {
            if (NUMBERS.containsKey(method.getName())) {
                all.put(method.getName(), method);
            }
        }
        return all;
    }

    private void play() {
        List<String> names = new ArrayList<>(NUMBERS.keySet());
        names.removeAll(List.of("type", "circuit", "wires"));
        int often = random.nextInt(3);
        while (told.size() < MOST_CALLS - 120 && wrong == 0) {
            int draw = random.nextInt(100);
            if (draw < 2) {
                tell(draw < 1 ? "wires" : "type");
            } else if (draw < 3 + often) {
                tellText(text());
            } else if (draw < 12) {
                tell("gate");
            } else if (draw < 18) {
                filmAndAsk();
            } else {
                tell(names.get(random.nextInt(names.size())));
            }
        }
    }

    private void tell(String name) {
        String sorts = NUMBERS.get(name);
        Object[] numbers = new Object[sorts.length()];
        for (int s = 0; s < numbers.length; s++) {
            numbers[s] = number(sorts.charAt(s));
        }
        if (name.equals("gate") && random.nextInt(8) > 0) {
            List<Integer> wires = shuffledWires(plain.count(0));
            int kind = random.nextInt(wires.size() > 2 ? 5 : 3);
            int has = kind == 0 ? 1 : kind < 3 ? 2 : 3;
            numbers = new Object[] {kind, wires.get(0), has > 1 ? wires.get(1) : 0, has > 2 ? wires.get(2) : 0};
        }
        tell(name, numbers);
    }

    private void tell(String name, Object... numbers) {
        int want = answer(PLAIN.get(name), plain, numbers);
        int got = answer(MIRROR.get(name), x, numbers);
        told.add(name + Arrays.toString(numbers) + " = " + want);
        if (got != want) {
            wrong++;
            System.out.println("behind " + told.subList(Math.max(0, told.size() - 30), told.size() - 1));
            System.out.println(told.get(told.size() - 1) + ", but MirrorWires answered " + got);
        }
    }

    private static int answer(Method method, Object on, Object... numbers) {
        try {
            return (Integer) method.invoke(on, numbers);
        } catch (ReflectiveOperationException e) {
            throw new IllegalStateException(method + Arrays.toString(numbers) + " threw", e);
        }
    }

    /** Rows that tell something: filmed, then one gate dead or of another kind, or some runs more. */
    private void filmAndAsk() {
        int lane = random.nextInt(4);
        int state = random.nextInt(1 << plain.count(0));
        int n = 1 + random.nextInt(Math.min(8, (1 << plain.count(0)) - state));
        tell("sheet", 0, lane, 8 + random.nextInt(17));
        if (random.nextInt(2) == 0 && plain.count(1) > 0) {
            int gate = random.nextInt(plain.count(1));
            boolean dead = plain.of(gate, 4) == 1;
            tell(dead ? "heal" : "kill", gate);
            tell("film", state, n, 0, lane, 0);
            tell(dead ? "kill" : "heal", gate);
        } else {
            int runs = random.nextInt(220);
            for (int s = 0; s < n; s++) {
                tell("item", 0, lane, s, (long) plain.far(state + s, runs));
            }
        }
        tell("came", -1, state, 0, lane, 0, n);
        tell("came", -2, state, 0, lane, 0, n);
        if (plain.count(1) > 0) {
            tell("came", random.nextInt(plain.count(1)), state, 0, lane, 0, n);
        }
    }

    private void tellText(String text) {
        for (char letter : text.toCharArray()) {
            tell("type", (int) letter);
        }
        tell("circuit");
    }

    private List<Integer> shuffledWires(int n) {
        List<Integer> wires = new ArrayList<>();
        for (int w = 0; w < n; w++) {
            wires.add(w);
        }
        Collections.shuffle(wires, random);
        return wires;
    }

    private String text() {
        StringBuilder text = new StringBuilder();
        int wires = 2 + random.nextInt(5);
        text.append(wires);
        if (random.nextBoolean()) {
            text.append('=').append(random.nextInt((1 << wires) + (random.nextInt(4) == 0 ? 4 : 0)));
        }
        text.append(':');
        int gates = random.nextInt(random.nextInt(4) == 0 ? 18 : 9);
        for (int g = 0; g < gates; g++) {
            int kind = random.nextInt(wires > 2 ? 5 : 3);
            text.append(g > 0 ? "," : "").append("ticbp".charAt(kind));
            for (int wire : shuffledWires(wires).subList(0, kind == 0 ? 1 : kind < 3 ? 2 : 3)) {
                text.append(wire);
            }
            text.append(random.nextInt(4) == 0 ? "!" : "");
        }
        for (int change = random.nextInt(3) == 0 ? random.nextInt(3) : 0; change > 0; change--) {
            int at = random.nextInt(text.length() + 1);
            char letter = "  0123456789=:,!ticbpx".charAt(random.nextInt(22));
            if (random.nextInt(3) == 0 && at < text.length()) {
                text.deleteCharAt(at);
            } else {
                text.insert(at, letter);
            }
        }
        return text.substring(0, Math.min(text.length(), 110));
    }

    private Object number(char sort) {
        int strange = random.nextInt(60);
        if (strange == 0 && sort != 'V') {
            return new int[] {Integer.MIN_VALUE, -1, -2, Integer.MAX_VALUE, 64, 16, 24}[random.nextInt(7)];
        }
        int gates = plain.count(1);
        int states = 1 << plain.count(0);
        switch (sort) {
            case 'n': return random.nextInt(7) + 1;
            case 'k': return random.nextInt(5);
            case 'w': return random.nextInt(plain.count(0) + (strange < 5 ? 1 : 0));
            case 'g': return random.nextInt(gates + 1 - (strange > 5 && gates > 0 ? 1 : 0));
            case 'G': return random.nextInt(gates + 3) - 2;
            case 's': return random.nextInt(states + (strange < 3 ? 1 : 0));
            case 'l': return 30 + random.nextInt(98);
            case 'p': return random.nextInt(strange < 6 ? 18 : 4);
            case 'd': return random.nextInt(strange < 6 ? 42 : 5);
            case 'v': return random.nextInt();
            case 'r': return random.nextBoolean() ? random.nextInt(300) : random.nextInt(2000000002);
            case 'm': return random.nextInt(5) - 1;
            case 't': return random.nextInt(strange < 4 ? 12 : 11);
            case 'h': return random.nextInt(strange < 3 ? 5 : 4);
            case 'j': return random.nextInt(strange < 3 ? 5 : 4) * random.nextInt(2);
            case 'i': return random.nextInt(25) * random.nextInt(2);
            case 'e': return random.nextInt(10) / (1 + random.nextInt(3));
            case 'f': return random.nextInt(26) / (1 + random.nextInt(3));
            case 'z': return strange < 3 ? -1 : strange < 6 ? 25 : random.nextInt(25);
            case 'V': return random.nextBoolean() ? random.nextLong() : (long) random.nextInt(64);
            default: return random.nextInt(sort - '0' + (strange < 4 ? 1 : 0));
        }
    }
}
