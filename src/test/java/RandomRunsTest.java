import java.lang.reflect.Method;
import java.util.ArrayList;
import java.util.List;
import java.util.Random;

/** Random runs of at most 512 calls on OneBarrel and on the model: every answer must be the same. */
public final class RandomRunsTest {
    private static final String[] SETTING = {"tool", "edge", "barrel", "rust", "shot", "found", "hair", "text", "looker",
        "pair", "scene"};
    private static final String[] ASKING = {"at", "of", "fault", "slid", "says", "truth", "odds", "far", "own", "list",
        "counted", "round", "lean", "joined", "look", "end", "hair"};

    private final Random random;
    private final OneBarrel real = new OneBarrel();
    private final Model model = new Model();
    private final List<String> told = new ArrayList<>();
    private boolean agrees = true;

    private RandomRunsTest(long seed) {
        random = new Random(seed);
    }

    public static void main(String[] args) throws Exception {
        int runs = Integer.getInteger("runs", 300);
        long first = Long.getLong("seed", 1L);
        int wrong = 0;
        for (long seed = first; seed < first + runs && wrong < 3; seed++) {
            RandomRunsTest run = new RandomRunsTest(seed);
            run.go();
            if (!run.agrees) {
                wrong++;
                System.out.println("seed " + seed + ":");
                int size = run.told.size();
                run.told.subList(Math.max(0, size - 12), size).forEach(s -> System.out.println("  " + s));
            }
        }
        System.out.println(wrong == 0 ? runs + " random runs agree" : wrong + " random runs do not agree");
        if (wrong != 0) {
            System.exit(1);
        }
    }

    private void go() throws Exception {
        int calls = 60 + random.nextInt(453);
        int setting = 1 + random.nextInt(5);
        int kind = random.nextInt(6);
        if (kind == 0) {
            fill();
        } else if (kind > 3) {
            enrich();
            setting = 0;
        }
        for (int n = 0; n < calls && agrees && told.size() < 512; n++) {
            boolean early = n < calls * setting / 8;
            String[] from = early ? SETTING : random.nextInt(6) == 0 ? SETTING : ASKING;
            one(kind == 1 && random.nextInt(3) > 0 ? "text" : from[random.nextInt(from.length)]);
        }
    }

    /** A store at its limits, which random calls seldom reach. */
    private void fill() throws Exception {
        text(true);
        for (int n = 0; n < 7; n++) {
            call("tool", random.nextInt());
            call("looker", random.nextInt(16));
            for (int i = 0; i < 6; i++) {
                call("edge", n, random.nextInt(32), random.nextInt(64));
            }
        }
        for (int n = 0; n < 17; n++) {
            call("barrel", random.nextInt(6));
        }
        int balls = random.nextBoolean() ? 41 : 10;
        for (int n = 0; n < balls; n++) {
            if (random.nextInt(9) == 0) {
                call("found");
            } else {
                call("shot", random.nextInt(16), random.nextInt(10));
            }
        }
        for (int n = 0; n < 11; n++) {
            call("pair", ball(), ball(), 1 + random.nextInt(5));
        }
        for (int n = 0; n < 6; n++) {
            text(false);
        }
    }

    /** A store in which lookers err, lean and join: texts made at random seldom make one. */
    private void enrich() throws Exception {
        String[] laws = {
            "cut draw * 4 + draw / 4; take high + draw / 5 - 1; wear high + 1 when draw > 12; wear high - shots;",
            "cut draw * 4 when draw > 2; take right when draw < soft; wear left when draw < 3 or rust > 50;",
            "cut at * 2 + draw; take left when at > 9 and at < 20 + draw; wear high + draw - 7 when no draw < 12;"};
        text(true, laws[random.nextInt(laws.length)]);
        for (int n = 0; n < 3; n++) {
            call("tool", random.nextInt());
            call("looker", random.nextInt(8));
            call("looker", random.nextInt(3));
        }
        for (int n = 0; n < 7; n++) {
            call("barrel", random.nextInt(3));
        }
        int balls = 8 + random.nextInt(12);
        for (int n = 0; n < balls; n++) {
            if (random.nextInt(9) == 0) {
                call("found");
            } else {
                call("shot", random.nextInt(7), random.nextInt(10));
            }
            call("hair", n, random.nextInt(32), -1);
        }
        for (int n = 0; n < 10; n++) {
            int a = random.nextInt(balls);
            call("pair", a, (a + 1 + random.nextInt(balls - 1)) % balls, 1 + random.nextInt(4));
        }
        for (int n = 0; n < 6; n++) {
            text(false, "same longest > " + random.nextInt(20) + " - 4 * told or pieces > " + (14 + random.nextInt(15))
                    + "; not best < " + (6 + random.nextInt(16)) + (random.nextBoolean() ? "; not told = 1;" : ";"), n);
        }
        for (int n = 0; n < 12; n++) {
            call("scene", random.nextInt(8), random.nextInt(balls), true);
        }
    }

    private int number(int below) {
        int roll = random.nextInt(40);
        if (roll == 0) {
            return below;
        }
        if (roll == 1) {
            return -1;
        }
        if (roll == 2) {
            return random.nextBoolean() ? Integer.MIN_VALUE : Integer.MAX_VALUE;
        }
        return random.nextInt(below);
    }

    private int ball() {
        return number(Math.max(1, model.balls.size()));
    }

    private int who() {
        return number(Math.max(1, model.lookers.size()));
    }

    private boolean coin() {
        return random.nextBoolean();
    }

    private void one(String name) throws Exception {
        switch (name) {
            case "tool" -> call(name, random.nextInt());
            case "edge" -> call(name, number(Math.max(1, model.tools.size())), number(32), number(64));
            case "barrel" -> call(name, number(Math.max(1, model.tools.size())));
            case "rust" -> call(name, number(Math.max(1, model.barrels.size())), number(100));
            case "shot" -> call(name, number(Math.max(1, model.barrels.size())), number(10));
            case "hair" -> call(name, ball(), number(32), random.nextInt(3) == 0 ? -1 : number(64));
            case "text" -> text(coin());
            case "looker" -> call(name, number(16));
            case "pair" -> call(name, ball(), ball(), number(100));
            case "scene" -> call(name, number(8), ball(), random.nextInt(4) > 0);
            case "at" -> call(name, number(3), number(Math.max(1, model.balls.size())), number(32));
            case "of" -> call(name, ball(), coin() ? number(5) : 9 + number(6));
            case "fault", "look" -> call(name, number(8));
            case "slid" -> call(name, who(), ball(), ball(), coin() ? number(6) : 32 + number(32));
            case "says" -> call(name, who(), ball(), ball(), coin());
            case "truth" -> call(name, ball(), ball());
            case "odds" -> call(name, who(), number(33), number(3), number(2));
            case "far" -> call(name, who(), number(34));
            case "own" -> call(name, who(), ball(), ball(), ball(), number(2));
            case "list" -> call(name, who(), ball(), number(Math.max(1, model.balls.size() - 1)));
            case "counted" -> call(name, who(), coin(), number(3));
            case "round" -> call(name, number(1 << model.lookers.size()), number(2));
            case "lean" -> call(name, who());
            case "joined" -> call(name, who(), coin() ? number(3) : 10 + number(8));
            case "end" -> call(name, number(Math.max(1, model.tape.length())));
            default -> call(name);
        }
    }

    private void text(boolean laws) throws Exception {
        text(laws, TextMaker.make(random, laws), who());
    }

    private void text(boolean laws, String text) throws Exception {
        text(laws, text, 0);
    }

    private void text(boolean laws, String text, int looker) throws Exception {
        for (int from = 0; from < text.length(); from += 20) {
            int[] fed = TestTools.words(text, from);
            call("feed", fed[0], fed[1], fed[2], fed[3], fed[4]);
        }
        if (random.nextInt(30) > 0) {
            call("end", text.length());
        }
        if (random.nextInt(20) == 0 ? !laws : laws) {
            call("laws");
        } else {
            call("judgement", looker);
        }
        call("fault", 0);
        call("fault", 1);
    }

    private void call(String name, Object... args) throws Exception {
        if (!agrees || told.size() >= 512) {
            return;
        }
        Object got = answer(OneBarrel.class, real, name, args);
        Object want = answer(Model.class, model, name, args);
        told.add(name + List.of(args) + " answered " + got + ", due is " + want);
        agrees = got.equals(want);
    }

    private static Object answer(Class<?> type, Object on, String name, Object[] args) throws Exception {
        for (Method m : type.getDeclaredMethods()) {
            if (m.getName().equals(name) && java.lang.reflect.Modifier.isPublic(m.getModifiers())) {
                return m.invoke(on, args);
            }
        }
        throw new NoSuchMethodException(name);
    }
}
