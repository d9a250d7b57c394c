import java.lang.reflect.InvocationTargetException;
import java.lang.reflect.Method;
import java.lang.reflect.Modifier;
import java.util.ArrayList;
import java.util.Arrays;
import java.util.HashMap;
import java.util.List;
import java.util.Map;
import java.util.Random;

/** Long runs of calls, each asked of the class and of the model; the answers and exceptions must be the same. */
public final class ModelTest {
    /** What later calls of an object answer is free. */
    private static final int CALLS = 512;
    private static final Map<String, Method> FACE = new HashMap<>();
    private static final Map<String, Method> MODEL = new HashMap<>();
    private static final Map<String, int[]> OUTCOMES = new HashMap<>();
    private static int wrong = 0;

    private final Random random;
    private final SecretVault vault = new SecretVault();
    private final Model model = new Model();
    private final List<String> log = new ArrayList<>();
    private final List<Object[]> questions = new ArrayList<>();
    private boolean broken;

    private ModelTest(long seed) {
        random = new Random(seed);
    }

    public static void main(String[] args) throws Exception {
        for (Method m : SecretVault.class.getDeclaredMethods()) {
            if (Modifier.isPublic(m.getModifiers())) {
                FACE.put(m.getName(), m);
                Method twin = Model.class.getDeclaredMethod(m.getName(), m.getParameterTypes());
                twin.setAccessible(true);
                MODEL.put(m.getName(), twin);
            }
        }
        int runs = args.length > 0 ? Integer.parseInt(args[0]) : 2000;
        long first = args.length > 1 ? Long.parseLong(args[1]) : 1;
        for (long seed = first; seed < first + runs && wrong < 5; seed++) {
            new ModelTest(seed).run();
        }
        for (String name : FACE.keySet()) {
            if (!OUTCOMES.containsKey(name) || OUTCOMES.get(name)[0] == 0) {
                wrong++;
                System.out.println("no run called " + name + " with an answer");
            }
        }
        if (args.length > 0) {
            OUTCOMES.forEach((k, v) -> System.out.println(k + " answers " + v[0] + " exceptions " + v[1]));
        }
        System.out.println(wrong == 0 ? runs + " runs agree with the model" : wrong + " runs do not agree");
        if (wrong != 0) {
            System.exit(1);
        }
    }

    /** A run of some length, and then as many of all questions, in any order, as calls are left. */
    private void run() throws Exception {
        int length = 20 + random.nextInt(CALLS - 20);
        while (log.size() < length && !broken) {
            step();
        }
        gatherQuestions();
        java.util.Collections.shuffle(questions, random);
        for (Object[] question : questions) {
            call((String) question[0], Arrays.copyOfRange(question, 1, question.length));
        }
    }

    // ---- one call of both

    private static Object outcome(Method m, Object target, Object[] args) throws Exception {
        try {
            return m.invoke(target, args);
        } catch (InvocationTargetException e) {
            if (!(e.getCause() instanceof RuntimeException)) {
                throw e;
            }
            boolean byMachine = "/ by zero".equals(e.getCause().getMessage());
            return e.getCause().getClass().getName() + (byMachine ? " of the machine" : "");
        }
    }

    private Object call(String name, Object... args) throws Exception {
        if (broken || log.size() >= CALLS) {
            return null;
        }
        Object want = outcome(MODEL.get(name), model, args);
        Object got = outcome(FACE.get(name), vault, args);
        log.add(name + Arrays.toString(args) + " -> " + got);
        OUTCOMES.computeIfAbsent(name, n -> new int[2])[want instanceof String ? 1 : 0]++;
        if (!want.equals(got)) {
            broken = true;
            wrong++;
            System.out.println("the model answers " + want + " to the last call of:");
            log.forEach(line -> System.out.println("  " + line));
        }
        return got;
    }

    // ---- arguments

    private boolean chance(int percent) {
        return random.nextInt(100) < percent;
    }

    private int odd() {
        int[] odd = {-1, -2, 8, 9, 4, 25, 24, 0, 256, 255, 1018, 1019, Integer.MIN_VALUE, Integer.MAX_VALUE, 31, 32};
        return odd[random.nextInt(odd.length)];
    }

    private int from(int low, int high) {
        return chance(3) ? odd() : low + random.nextInt(high - low + 1);
    }

    private int slot() {
        return chance(50) ? 0 : from(0, 3);
    }

    private int set() {
        return chance(35) ? 255 : from(0, 255);
    }

    private int threshold() {
        return chance(60) ? from(1, 3) : from(1, 8);
    }

    // ---- texts

    private void type(String text) throws Exception {
        int at = 0;
        while (at < text.length() && !broken) {
            int packed = 0;
            for (int i = 0; i < 4; i++) {
                packed <<= 8;
                if (at < text.length() && !chance(10)) {
                    packed |= text.charAt(at);
                    at++;
                }
            }
            call("append", packed);
        }
    }

    private String policy(int depth) {
        StringBuilder text = new StringBuilder(all(depth));
        while (chance(30)) {
            text.append('|').append(all(depth));
        }
        return text.toString();
    }

    private String all(int depth) {
        StringBuilder text = new StringBuilder(part(depth));
        while (chance(30)) {
            text.append('&').append(part(depth));
        }
        return text.toString();
    }

    private String part(int depth) {
        if (depth == 0 || chance(35)) {
            return String.valueOf(random.nextInt(8));
        }
        if (chance(60)) {
            return "(" + policy(depth - 1) + ")";
        }
        StringBuilder text = new StringBuilder((chance(70) ? 1 + random.nextInt(3) : 1 + random.nextInt(9)) + "of(");
        text.append(policy(depth - 1));
        while (chance(55)) {
            text.append(',').append(policy(depth - 1));
        }
        return text.append(')').toString();
    }

    private String policyText() {
        String text = policy(1 + random.nextInt(6));
        for (int tries = 0; text.length() > 40 && tries < 30; tries++) {
            text = policy(1 + random.nextInt(4));
        }
        return text;
    }

    private String spoiled(String text, String signs) {
        StringBuilder spoiled = new StringBuilder(text);
        int at = random.nextInt(text.length() + 1);
        char sign = signs.charAt(random.nextInt(signs.length()));
        if (chance(30) || at == text.length()) {
            spoiled.insert(at, sign);
        } else if (chance(40)) {
            spoiled.setCharAt(at, sign);
        } else if (chance(50)) {
            spoiled.deleteCharAt(at);
        } else {
            spoiled.setLength(at);
        }
        return spoiled.toString();
    }

    private String shareText() {
        int[] edges = {0, 1, 24, 25, 1018, 1019, 9999, 10000, 100, 999};
        int place = chance(90) ? 1 + random.nextInt(24) : edges[random.nextInt(edges.length)];
        int value = chance(85) ? random.nextInt(1019) : edges[random.nextInt(edges.length)];
        int epoch = chance(85) ? 1 + random.nextInt(6) : edges[random.nextInt(edges.length)];
        return Model.textOf(place, value, epoch);
    }

    // ---- steps

    private void step() throws Exception {
        int kind = random.nextInt(100);
        if (kind < 6) {
            call("put", slot(), from(0, 1018), threshold());
        } else if (kind < 9) {
            call("setWeight", from(0, 7), from(0, 3));
        } else if (kind < 13) {
            call("setPresent", from(0, 7), chance(70));
        } else if (kind < 17) {
            call("refresh", slot());
        } else if (kind < 20) {
            call("reshare", slot(), set(), threshold());
        } else if (kind < 25) {
            call("enroll", slot(), set(), from(0, 7));
        } else if (kind < 27) {
            call("expel", slot(), from(0, 7));
        } else if (kind < 35) {
            openAndReport();
        } else if (kind < 39) {
            call("setShare", slot(), from(1, 24), from(0, 1018));
        } else if (kind < 45) {
            givePolicy();
        } else if (kind < 50) {
            giveShare();
        } else if (kind < 54) {
            rare();
        } else {
            ask();
        }
    }

    private void openAndReport() throws Exception {
        Object answer = call("open", slot(), set());
        if (answer instanceof String || chance(5)) {
            Object levels = call("levels");
            for (int level = 0; levels != null && level < (Integer) levels; level++) {
                call("report", level, 0);
                call("report", level, 1);
            }
        }
    }

    private void givePolicy() throws Exception {
        String text = policyText();
        type(chance(35) ? spoiled(text, "0123456789of(),|&x") : text);
        call("setPolicy", slot());
        call("errorPosition");
    }

    private void giveShare() throws Exception {
        String text = shareText();
        type(chance(40) ? spoiled(text, "0123456789:@#x") : text);
        call("importShare", slot());
        call("errorPosition");
    }

    private void rare() throws Exception {
        switch (random.nextInt(6)) {
            case 0 -> call("save");
            case 1 -> call("restore");
            case 2 -> call("seed", random.nextInt());
            case 3 -> call("draw");
            case 4 -> call("append", random.nextInt());
            default -> call("remove", slot());
        }
    }

    private void ask() throws Exception {
        switch (random.nextInt(18)) {
            case 0 -> call("member", from(0, 7), from(0, 3));
            case 1 -> call("combine", slot(), set());
            case 2, 3 -> call("agree", slot(), set());
            case 4 -> call("secret", slot(), from(0, 6));
            case 5 -> call("commitment", slot(), from(0, 4));
            case 6 -> call("share", slot(), from(1, 24), from(0, 2));
            case 7 -> call("shareText", slot(), from(1, 24), from(-1, 10));
            case 8 -> call("bad", slot(), from(0, 4));
            case 9 -> call("fulfils", slot(), set());
            case 10 -> call("policyText", slot(), from(-1, 20));
            case 11 -> call("policy", slot(), from(0, 2));
            case 12 -> call("groups", slot());
            case 13 -> call("smallest", slot(), from(0, 12));
            case 14 -> call("powerBits", slot(), from(0, 7));
            case 15 -> call("healthBits", slot());
            case 16 -> call("report", from(0, 4), from(0, 1));
            default -> call("event", from(0, 20));
        }
    }

    private void later(Object... question) {
        questions.add(question);
    }

    /** All that can be asked; of a slot that is empty only few. */
    private void gatherQuestions() {
        for (int slot = 0; slot < 4; slot++) {
            if (model.w.slots[slot] != null || chance(5)) {
                askOfShares(slot);
                askOfPolicy(slot);
                askOfGroups(slot);
            }
        }
        for (int m = 0; m < 8; m++) {
            for (int what = 0; what < 4; what++) {
                later("member", m, what);
            }
        }
        for (int i = 0; i < 21; i++) {
            later("event", i);
        }
        later("errorPosition");
        later("append", 0);
        later("draw");
    }

    private void askOfShares(int slot) {
        for (int what = 0; what < 7; what++) {
            later("secret", slot, what);
        }
        for (int place = 1; place <= 24; place++) {
            for (int what = 0; what < 3; what++) {
                later("share", slot, place, what);
            }
            later("shareText", slot, place, -1);
            later("shareText", slot, place, random.nextInt(14));
            later("bad", slot, chance(50) ? place - 1 : place / 6);
        }
        for (int j = -1; j < 9; j++) {
            later("commitment", slot, j);
        }
    }

    private void askOfPolicy(int slot) {
        for (int index = -1; index < 41; index += 1 + random.nextInt(4)) {
            later("policyText", slot, index);
        }
        for (int what = 0; what < 3; what++) {
            later("policy", slot, what);
        }
        for (int i = 0; i < 16; i++) {
            int set = random.nextInt(256);
            later("fulfils", slot, set);
            later("agree", slot, set);
            later("combine", slot, set);
        }
    }

    private void askOfGroups(int slot) {
        later("groups", slot);
        for (int i = 0; i < 71; i += 1 + random.nextInt(6)) {
            later("smallest", slot, i);
        }
        for (int m = 0; m < 8; m++) {
            later("powerBits", slot, m);
        }
        later("healthBits", slot);
    }
}
