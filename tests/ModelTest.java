import java.lang.reflect.InvocationTargetException;
import java.lang.reflect.Method;
import java.util.ArrayList;
import java.util.HashMap;
import java.util.List;
import java.util.Map;
import java.util.Random;

/** Random runs of calls, always the same ones, on Bonehall and on the model; the argument is how many there are. */
public final class ModelTest {
    private static final int MOST_CALLS = 512;
    private static final String[] ASKED = {"inHand", "handAt", "pips", "yard", "turn", "laid", "laidAt", "ends", "endAt",
        "sum", "fits", "canPlay", "isBlocked", "winner", "points", "isVoid", "found", "deals", "chance", "solve",
        "bestBone", "bestEnd", "rows", "rings", "rounds", "laidShare", "meanPips", "checksum", "isSound", "bone", "half",
        "trick"};
    private static final Map<String, Method> MODEL = methodsOf(Model.class);
    private static final Map<String, Method> HALL = methodsOf(Bonehall.class);
    private static final Map<String, Integer> SEEN = new HashMap<>();

    private final Random random;
    private final Model model = new Model();
    private final Bonehall hall = new Bonehall();
    private final StringBuilder run = new StringBuilder();
    private int calls = 0;

    private ModelTest(long seed) {
        random = new Random(seed);
    }

    public static void main(String[] args) {
        int runs = args.length > 0 ? Integer.parseInt(args[0]) : 1500;
        for (int seed = 0; seed < runs; seed++) {
            Check.part("run " + seed);
            new ModelTest(seed).play();
        }
        for (String name : HALL.keySet()) {
            Check.due(name + " has answered", true, SEEN.getOrDefault(name, 0) > 0);
        }
        if (args.length > 1) {
            SEEN.forEach((what, times) -> System.out.println(what + " " + times));
        }
        Check.end("ModelTest");
    }

    private static Map<String, Method> methodsOf(Class<?> type) {
        Map<String, Method> methods = new HashMap<>();
        for (Method method : type.getDeclaredMethods()) {
            if (type == Model.class || java.lang.reflect.Modifier.isPublic(method.getModifiers())) {
                method.setAccessible(true);
                methods.put(method.getName(), method);
            }
        }
        return methods;
    }

    private static Object answer(Method method, Object target, Object[] args) {
        try {
            return method.invoke(target, args);
        } catch (InvocationTargetException e) {
            return e.getCause().getClass();
        } catch (IllegalAccessException e) {
            throw new IllegalStateException(e);
        }
    }

    private Object ask(String name, Object... args) {
        if (calls >= MOST_CALLS) {
            return -1;
        }
        calls++;
        Object want = answer(MODEL.get(name), model, args);
        Object got = answer(HALL.get(name), hall, args);
        run.append(name).append(List.of(args)).append(' ');
        Check.due("after " + (want.equals(got) ? "" : run.toString()) + name + List.of(args), want, got);
        SEEN.merge(want instanceof Class<?> type ? name + " " + type.getSimpleName() : name, 1, Integer::sum);
        return want;
    }

    private void play() {
        int style = random.nextInt(4);
        int most = 40 + random.nextInt(MOST_CALLS - 40);
        open(style);
        while (calls < most) {
            int dice = random.nextInt(100);
            if (dice < 40) {
                move();
            } else if (dice < 44) {
                ask("play", number(55), number(6));
            } else if (dice < 48) {
                ask(random.nextBoolean() ? "draw" : "pass");
            } else if (dice < 52) {
                ask("give", number(4), number(20));
            } else if (dice < 57) {
                ask("type", number(random.nextBoolean() ? 10 : 55));
            } else if (dice < 58) {
                ask(random.nextInt(4) > 0 ? "wipe" : "close");
            } else if (dice < 59) {
                ask("rule", "psxdftcrz".charAt(random.nextInt(9)), random.nextBoolean());
            } else if (dice < 60) {
                open(style);
            } else {
                question();
            }
        }
    }

    private void open(int style) {
        String rules = style == 0 ? "p" : style == 1 ? "psxdftcr" : style == 2 ? "dr" : "sft";
        for (char letter : rules.toCharArray()) {
            ask("rule", letter, random.nextInt(3) > 0);
        }
        if (style == 0) {
            ask("begin", 3 + random.nextInt(2), random.nextBoolean() ? 4 : 2, 2 + random.nextInt(3));
        } else if (random.nextInt(4) == 0) {
            ask("begin", 2 + random.nextInt(9), 1 + random.nextInt(5), 1 + random.nextInt(10));
        } else {
            ask("begin", 3 + random.nextInt(7), 2 + random.nextInt(3), 2 + random.nextInt(6));
        }
        ask("deal", random.nextInt());
    }

    private int number(int bound) {
        if (random.nextInt(150) == 0) {
            return random.nextBoolean() ? Integer.MIN_VALUE + random.nextInt(3) : Integer.MAX_VALUE - random.nextInt(3);
        }
        return random.nextInt(12) == 0 ? -1 + random.nextInt(2) * (bound + 1) : random.nextInt(bound);
    }

    /** A move that can be made, if a round goes on; otherwise the next round. */
    private void move() {
        List<int[]> moves = new ArrayList<>();
        try {
            int player = model.turn();
            for (int i = 0; i < model.inHand(player); i++) {
                for (int end = 0; end < Math.max(1, model.ends()); end++) {
                    if (model.laid() == 0 || model.fits(model.handAt(player, i), end)) {
                        moves.add(new int[] {model.handAt(player, i), end});
                    }
                }
            }
        } catch (IllegalStateException e) {
            if (ask("deal", random.nextInt()) instanceof Class<?>) {
                open(random.nextInt(4));
            }
            return;
        }
        if (random.nextInt(12) == 0) {
            ask("pass");
        } else if (!moves.isEmpty()) {
            int[] move = moves.get(random.nextInt(moves.size()));
            ask("play", move[0], move[1]);
        } else if (answer(MODEL.get("isBlocked"), model, new Object[0]) instanceof Boolean
                && ask("draw") instanceof Class<?>) {
            ask("pass");
        }
    }

    private void question() {
        String name = ASKED[random.nextInt(ASKED.length)];
        Class<?>[] types = HALL.get(name).getParameterTypes();
        Object[] args = new Object[types.length];
        for (int i = 0; i < types.length; i++) {
            args[i] = types[i] == boolean.class ? random.nextBoolean() : argument(name, i);
        }
        ask(name, args);
    }

    private Object argument(String name, int i) {
        return switch (name) {
            case "inHand", "pips", "canPlay", "deals" -> number(4);
            case "handAt", "isVoid", "bone" -> number(i == 0 ? 4 : 8);
            case "chance" -> number(i < 2 ? 3 : 55);
            case "trick" -> i == 0 ? number(8) - random.nextInt(2) : number(random.nextBoolean() ? 10 : 28);
            case "fits" -> number(i == 0 ? 28 : 4);
            case "points" -> number(4);
            default -> number(10);
        };
    }
}
