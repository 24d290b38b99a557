import java.lang.reflect.Method;
import java.util.ArrayList;
import java.util.List;
import java.util.Random;

/** Runs of calls by chance, each answered by the class and by the plain model; they must never differ. */
public final class ModelTest {
    private static final List<String> DEAR = List.of("barred", "meet", "keep", "free", "dates", "surest", "soonest", "reach");

    private final Random random;
    private final Texts texts;
    private final List<String> calls = new ArrayList<>();
    private ShadowDoors real = new ShadowDoors();
    private Model model = new Model();
    private boolean small = true;
    private int differing;

    private ModelTest(long seed) {
        random = new Random(seed);
        texts = new Texts(random);
    }

    private static long asLong(Object answer) {
        return answer instanceof Boolean b ? (b ? 1 : 0) : ((Number) answer).longValue();
    }

    private long call(String name, Object... args) throws Exception {
        Class<?>[] types = new Class<?>[args.length];
        for (int i = 0; i < args.length; i++) {
            types[i] = args[i] instanceof Boolean ? boolean.class : int.class;
        }
        calls.add(name + java.util.Arrays.toString(args));
        Method asked = ShadowDoors.class.getMethod(name, types);
        Method modelled = Model.class.getDeclaredMethod(name, types);
        long got = asLong(asked.invoke(real, args));
        long due = asLong(modelled.invoke(model, args));
        if (got != due) {
            differing++;
            System.out.println(String.join("\n", calls) + "\n answered " + got + ", the model " + due);
        }
        return got;
    }

    private void tell(String text) throws Exception {
        // What is cut off behind the text is no part of it.
        String more = text + (random.nextBoolean() ? text : "a1 ;");
        int[] numbers = Texts.numbersOf(more.length() > 1600 ? text : more);
        for (int i = 0; i + 4 < numbers.length; i += 5) {
            call("feed", numbers[i], numbers[i + 1], numbers[i + 2], numbers[i + 3], numbers[i + 4]);
        }
        call("end", text.length());
        calls.add(text);
        call("quarter");
        call("fault", 0);
        call("fault", 1);
        small = model.plan.width * model.plan.depth <= 16;
    }

    private int number(String meaning) {
        int many = switch (meaning) {
            case "cell" -> model.plan.width * model.plan.depth;
            case "door" -> model.plan.doors.size();
            case "lamp" -> model.plan.lamps.size();
            case "person" -> model.plan.people.size();
            case "hours" -> 49;
            case "day" -> 24;
            case "few" -> 10;
            case "many" -> 26;
            case "what" -> 2;
            case "look" -> model.looks.size();
            case "time" -> model.time + 2;
            case "later" -> random.nextInt(30) == 0 ? 1001 : 3;
            case "about" -> 17;
            case "four" -> 4;
            default -> 3;
        };
        if (random.nextInt(90) == 0) {
            return random.nextBoolean() ? random.nextInt() : -1 - random.nextInt(3);
        }
        int chosen = many == 0 || random.nextInt(40) == 0 ? many : random.nextInt(many);
        boolean wall = meaning.equals("cell") && model.plan.walls.contains(chosen);
        return wall && random.nextInt(10) > 0 ? number(meaning) : chosen;
    }

    private static final String[] FACE = {"door door four", "lamp lamp three", "person person what", "shade door hours", "shadow door hours",
        "shades hours is", "moves cell hours", "go person cell", "hour", "hour", "hour", "shut door", "out lamp", "eclipse", "undo", "redo", "undo",
        "soonest cell cell", "soonest cell cell", "reach cell hours", "meet person person what", "barred cell many", "longest door what",
        "cross door door what", "rooms hours", "hears cell cell hours", "keep cell cell many what", "keep cell cell many what",
        "free cell cell many what", "free cell cell many what", "surest cell cell few what", "surest cell cell few what",
        "dates cell cell many three", "lies hours", "look day cell is", "look day cell is", "untell look", "later later", "fit time",
        "places time", "heights time", "ask what time", "image three", "back three", "about about", "fault what", "go person cell", "go person cell"};

    private void callSome() throws Exception {
        String[] words = FACE[random.nextInt(FACE.length)].split(" ");
        if (DEAR.contains(words[0]) && !small && random.nextInt(6) > 0) {
            return;
        }
        Object[] args = new Object[words.length - 1];
        for (int i = 0; i < args.length; i++) {
            args[i] = words[i + 1].equals("is") ? (Object) random.nextBoolean() : (Object) number(words[i + 1]);
        }
        if (words[0].equals("look") && args[0] instanceof Integer hour && args[1] instanceof Integer cell && random.nextInt(3) > 0) {
            // Mostly what is true of some door, so that some fit for long.
            args[2] = hour >= 0 && hour < 24 && model.plan.doors.size() > 0 && model.now.hours < 24 && hour >= model.now.hours
                    && (model.shadow(0, hour - model.now.hours) >>> cell & 1) != 0;
        }
        call(words[0], args);
        if (words[0].equals("soonest")) {
            for (int i = 0; i <= model.laid.size(); i++) {
                call("lies", i);
            }
        }
    }

    private void run(int number) throws Exception {
        real = new ShadowDoors();
        model = new Model();
        calls.clear();
        calls.add("run " + number);
        String text = texts.quarter(number % 5 == 0 ? 8 : 4);
        tell(number % 8 == 1 ? texts.broken(text) : text);
        for (int i = random.nextInt(3) == 0 ? random.nextInt(90) : 0; i > 0; i--) {
            call("hour");
        }
        for (int i = 0; i < 90 && differing == 0; i++) {
            // In an eclipse, or with doors shut, little is to be seen.
            if (model.now.eclipse && random.nextInt(4) > 0) {
                call("eclipse");
            }
            if (model.now.shut.size() > 1) {
                call("shut", model.now.shut.iterator().next());
            }
            if (random.nextInt(50) == 0) {
                String other = texts.quarter(4);
                tell(random.nextInt(3) == 0 ? texts.broken(other) : other);
            }
            callSome();
        }
        for (int what = 0; what < 17; what++) {
            call("about", what);
        }
    }

    private void readBroken() throws Exception {
        real = new ShadowDoors();
        model = new Model();
        calls.clear();
        String text = texts.quarter(8);
        tell(random.nextInt(5) == 0 ? text : texts.broken(text));
        call("about", 15);
        call("about", 3);
    }

    public static void main(String[] args) throws Exception {
        int runs = args.length > 0 ? Integer.parseInt(args[0]) : 400;
        ModelTest test = new ModelTest(args.length > 1 ? Long.parseLong(args[1]) : 20261118L);
        int sound = 0;
        for (int i = 0; i < runs && test.differing == 0; i++) {
            test.run(i);
        }
        for (int i = 0; i < 20 * runs && test.differing == 0; i++) {
            test.readBroken();
            sound += test.model.faultKind == 0 ? 1 : 0;
        }
        System.out.println(test.differing == 0 ? "the class and the model never differ (" + sound + " sound texts)" : "they differ");
        if (test.differing > 0) {
            System.exit(1);
        }
    }
}
