import java.nio.charset.StandardCharsets;
import java.util.Arrays;
import java.util.List;
import java.util.Random;

/** Runs of drawn calls on BeanTrug and on the plain Model: each answer must be alike. */
public final class ModelTest {
    private static final int RUNS = 300;
    private static final int CALLS = 512;
    private static final List<String> WORDS = List.of("sorrow", "weight", "time", "deep", "over", "many", "loose",
            "left", "load", "rest", "minute", "step");
    private static final int FEED = 0;
    private static final int END = 1;
    private static final int TRUG = 2;
    private static final int RULE = 3;
    private static final int TOOK = 24;
    private static final int NOTE = 27;
    private static final int RULED = 28;
    private static final int LOOK = 29;
    private static final int SEED = 30;
    private static final String[] NAMES = {"feed", "end", "trug", "rule", "force", "sorrow", "carrier", "step", "take",
        "await", "lay", "lighten", "undo", "ahead", "when", "dusk", "order", "chain", "rings", "taken", "slack",
        "carry", "pole", "light", "took", "game", "pence", "note", "ruled", "look", "seed", "years", "count", "image",
        "back"};

    private final Trial t;
    private final Random random;
    private final int run;
    private final BeanTrug real = new BeanTrug();
    private final Model model = new Model();
    private final StringBuilder story = new StringBuilder();
    private int calls = 0;
    private boolean alike = true;
    private int dear = 0;

    private ModelTest(Trial t, int run) {
        this.t = t;
        this.run = run;
        this.random = new Random(run);
    }

    public static void main(String[] args) {
        Trial t = new Trial("ModelTest");
        int from = args.length > 0 ? Integer.parseInt(args[0]) : 0;
        int runs = args.length > 1 ? Integer.parseInt(args[1]) : RUNS;
        for (int run = from; run < from + runs; run++) {
            new ModelTest(t, run).go();
        }
        t.close();
    }

    private void go() {
        boolean bare = random.nextInt(25) == 0;
        if (!bare) {
            tell(trugText(), TRUG);
        }
        while (calls < CALLS && alike) {
            int dice = random.nextInt(100);
            if (dice < 2) {
                tell(mutated(trugText()), TRUG);
            } else if (dice < 4 && !bare) {
                tell(trugText(), TRUG);
            } else if (dice < 7) {
                tell(ruleText(), RULE);
            } else if (dice < 9) {
                tell(mutated(ruleText()), RULE);
            } else if (dice < 10) {
                call(FEED, random.nextInt(), random.nextInt(), random.nextInt(), random.nextInt(), random.nextInt());
            } else if (dice < 13) {
                call(NOTE, -1, 0);
                trueNotes(between(-1, 5));
            } else {
                drawnCall();
            }
        }
    }

    /** Notes of what a rule does, so that it is found again among the others. */
    private void trueNotes(int rule) {
        for (int i = between(1, 3); i > 0; i--) {
            int n = between(0, 6);
            call(NOTE, n, model.liftedBy(rule, n));
        }
        call(RULED, between(0, 1));
        call(LOOK, between(0, 1));
        call(TOOK, between(0, dear), between(0, 1));
    }

    private void call(int which, int... args) {
        if (calls >= CALLS || !alike) {
            return;
        }
        calls++;
        int[] a = Arrays.copyOf(args, 5);
        int got = answer(which, a);
        int want = due(which, a);
        story.append(NAMES[which]).append(Arrays.toString(args)).append(" = ").append(want).append('\n');
        String what = NAMES[which] + Arrays.toString(args) + ", run " + run + ", call " + calls;
        t.due(what, got, want);
        if (got != want) {
            alike = false;
            System.out.println(story);
        }
    }

    // ---- texts ----

    private void tell(String text, int as) {
        byte[] bytes = text.getBytes(StandardCharsets.ISO_8859_1);
        if (bytes.length > 400) {
            bytes = Arrays.copyOf(bytes, 400);
        }
        if (calls + bytes.length / 20 + 4 > CALLS) {
            calls = CALLS;
            return;
        }
        story.append("// ").append(text).append('\n');
        call(END, 0);
        java.nio.ByteBuffer padded = java.nio.ByteBuffer.allocate((bytes.length + 19) / 20 * 20);
        padded.put(bytes).rewind();
        while (padded.hasRemaining()) {
            call(FEED, padded.getInt(), padded.getInt(), padded.getInt(), padded.getInt(), padded.getInt());
        }
        call(END, bytes.length);
        call(as);
    }

    private String gap() {
        return random.nextInt(8) == 0 ? "  " : " ";
    }

    private int between(int low, int high) {
        return low + random.nextInt(high - low + 1);
    }

    private String trugText() {
        StringBuilder s = new StringBuilder("trug ");
        boolean ample = random.nextBoolean();
        s.append(ample ? between(60, 300) : between(1, 60)).append(gap()).append(between(0, 20));
        int sorrows = random.nextInt(12) == 0 ? random.nextInt(2) : between(2, 8);
        dear = sorrows;
        int mostTime = random.nextBoolean() ? 40 : 8;
        int mostDeep = random.nextBoolean() ? 30 : 3;
        for (int i = 0; i < sorrows; i++) {
            s.append(";sorrow ").append(between(1, random.nextBoolean() ? 20 : 5)).append(gap())
                    .append(between(1, mostTime)).append(gap()).append(between(0, mostDeep));
        }
        boolean rings = random.nextInt(3) == 0;
        boolean turned = random.nextBoolean();
        int unders = sorrows < 2 ? 0 : random.nextInt(rings ? 14 : 8);
        for (int i = 0; i < unders; i++) {
            int a = random.nextInt(sorrows);
            int b = random.nextInt(sorrows);
            if (a != b) {
                boolean swap = !rings && (a < b) != turned;
                s.append(";under ").append(swap ? b : a).append(gap()).append(swap ? a : b);
            }
        }
        int carriers = random.nextInt(5);
        for (int i = 0; i < carriers; i++) {
            s.append(";carrier ").append(between(1, random.nextBoolean() ? 60 : 15));
        }
        return s.toString();
    }

    private String ruleText() {
        StringBuilder s = new StringBuilder();
        int clauses = random.nextInt(20) == 0 ? between(10, 14) : between(1, 3);
        for (int i = 0; i < clauses; i++) {
            s.append(i == 0 ? "" : ";").append("lift ").append(sum(random.nextInt(30) == 0 ? 70 : 3));
            if (random.nextInt(3) != 0) {
                s.append(" if ").append(test(random.nextInt(20) == 0 ? 12 : 2));
            }
        }
        return s.toString();
    }

    private String test(int depth) {
        StringBuilder s = new StringBuilder(fact(depth));
        for (int more = random.nextInt(3); more > 0; more--) {
            s.append(random.nextBoolean() ? " and " : " or ").append(fact(depth > 3 ? 0 : depth));
        }
        return s.toString();
    }

    private String fact(int depth) {
        int dice = depth <= 0 ? 9 : random.nextInt(depth > 5 ? 4 : 10);
        if (dice < 2) {
            return "not " + fact(depth - 1);
        }
        if (dice < 4) {
            return "[" + (depth > 5 ? fact(depth - 1) : test(depth - 1)) + "]";
        }
        String[] signs = {"<", "<=", "=", ">=", ">"};
        return sum(2) + gap() + signs[random.nextInt(5)] + gap() + sum(2);
    }

    private String sum(int most) {
        StringBuilder s = new StringBuilder(value());
        String[] signs = {"+", "-", "*", "/", "%"};
        for (int more = random.nextInt(most); more > 0; more--) {
            s.append(gap()).append(signs[random.nextInt(5)]).append(gap()).append(value());
        }
        return s.toString();
    }

    private String value() {
        if (random.nextInt(3) != 0) {
            return WORDS.get(random.nextInt(WORDS.size()));
        }
        int[] tops = {10, 10, 30, 100, 99999};
        return String.valueOf(random.nextInt(tops[random.nextInt(5)]));
    }

    private String mutated(String text) {
        StringBuilder s = new StringBuilder(text);
        for (int n = between(1, 2); n > 0; n--) {
            int at = random.nextInt(s.length() + 1);
            String[] bits = {";", " ", "0", "99", "123456", "trug", "sorrow 1 1 1", "under 0 1", "carrier 1", "lift 1",
                "if", "and", "or", "not ", "[", "]", "<", "=", "<=", "+", "/", "x", "\0", "\u00e9", "A", "{", "time"};
            int dice = random.nextInt(4);
            if (dice == 0 && at < s.length()) {
                s.deleteCharAt(at);
            } else if (dice == 1) {
                s.setLength(at);
            } else if (dice == 2) {
                s.insert(at, bits[random.nextInt(bits.length)]);
            } else {
                String more = ";" + bits[random.nextInt(bits.length)];
                s.append(more.repeat(random.nextInt(4) == 0 ? 20 : 1));
            }
        }
        return s.toString();
    }

    // ---- calls ----

    private void drawnCall() {
        int which = 4 + random.nextInt(NAMES.length - 4);
        // The model tries all rows and ways, so with many sorrows these are asked seldom.
        boolean slow = NAMES[which].equals("order") || NAMES[which].equals("carry") || NAMES[which].equals("game")
                || NAMES[which].equals("look") || NAMES[which].equals("slack");
        if (slow && dear > 5 && random.nextInt(8) != 0) {
            return;
        }
        boolean act = which >= 7 && which <= 12;
        if (act && random.nextInt(3) != 0) {
            return;
        }
        int first = argument(which);
        int second = random.nextInt(12) == 0 ? between(-3, 9) : random.nextInt(3);
        switch (NAMES[which]) {
            case "took", "when", "sorrow" -> call(which, first, NAMES[which].equals("sorrow") ? between(-1, 6) : second);
            case "lay", "note", "pence" -> call(which, first, between(-1, dear));
            case "lighten" -> call(which, first, between(0, 21));
            case "ahead", "years" -> call(which, first, second);
            default -> call(which, first);
        }
    }

    private int argument(int which) {
        int[] odd = {Integer.MIN_VALUE, Integer.MAX_VALUE, -2, -3, 8, 9, 32, 64, 300, 400, 401, 9999, 10000};
        if (random.nextInt(30) == 0) {
            return odd[random.nextInt(odd.length)];
        }
        return switch (NAMES[which]) {
            case "await" -> random.nextInt(6) == 0 ? between(0, 61) : between(1, 4);
            case "ahead" -> random.nextInt(4) == 0 ? between(-1, 101) : between(0, 8);
            case "order" -> between(-3, 8);
            case "carry" -> between(-2, 8);
            case "light" -> between(0, random.nextBoolean() ? 200 : 40);
            case "pence" -> random.nextInt(10001);
            case "note" -> random.nextInt(6) == 0 ? -1 : random.nextInt(8) == 0 ? between(0, 61) : between(0, 5);
            case "years" -> between(0, 21);
            case "count" -> between(-1, 16);
            case "seed" -> random.nextInt();
            case "force" -> between(-2, 6);
            case "image", "back" -> between(-1, 4);
            case "chain", "rings", "taken", "pole", "game", "ruled", "look", "dusk" -> between(0, 2);
            default -> between(-1, dear);
        };
    }

    private int answer(int which, int[] a) {
        return switch (which) {
            case FEED -> real.feed(a[0], a[1], a[2], a[3], a[4]);
            case END -> real.end(a[0]);
            case TRUG -> real.trug();
            case RULE -> real.rule();
            case 4 -> real.force(a[0]);
            case 5 -> real.sorrow(a[0], a[1]);
            case 6 -> real.carrier(a[0]);
            case 7 -> real.step();
            case 8 -> real.take(a[0]);
            case 9 -> real.await(a[0]);
            case 10 -> real.lay(a[0], a[1]);
            case 11 -> real.lighten(a[0], a[1]);
            case 12 -> real.undo();
            case 13 -> real.ahead(a[0], a[1]);
            case 14 -> real.when(a[0], a[1]);
            case 15 -> real.dusk(a[0]);
            case 16 -> real.order(a[0]);
            case 17 -> real.chain(a[0]);
            case 18 -> real.rings();
            case 19 -> real.taken(a[0]);
            case 20 -> real.slack(a[0]);
            case 21 -> real.carry(a[0]);
            case 22 -> real.pole(a[0]);
            case 23 -> real.light(a[0]);
            case TOOK -> real.took(a[0], a[1]);
            case 25 -> real.game(a[0]);
            case 26 -> real.pence(a[0], a[1]);
            case NOTE -> real.note(a[0], a[1]);
            case RULED -> real.ruled(a[0]);
            case LOOK -> real.look(a[0]);
            case SEED -> real.seed(a[0]);
            case 31 -> real.years(a[0], a[1]);
            case 32 -> real.count(a[0]);
            case 33 -> real.image(a[0]);
            default -> real.back(a[0]);
        };
    }

    private int due(int which, int[] a) {
        return switch (which) {
            case FEED -> model.feed(a[0], a[1], a[2], a[3], a[4]);
            case END -> model.end(a[0]);
            case TRUG -> model.trug();
            case RULE -> model.rule();
            case 4 -> model.force(a[0]);
            case 5 -> model.sorrow(a[0], a[1]);
            case 6 -> model.carrier(a[0]);
            case 7 -> model.step();
            case 8 -> model.take(a[0]);
            case 9 -> model.await(a[0]);
            case 10 -> model.lay(a[0], a[1]);
            case 11 -> model.lighten(a[0], a[1]);
            case 12 -> model.undo();
            case 13 -> model.ahead(a[0], a[1]);
            case 14 -> model.when(a[0], a[1]);
            case 15 -> model.dusk(a[0]);
            case 16 -> model.order(a[0]);
            case 17 -> model.chain(a[0]);
            case 18 -> model.rings();
            case 19 -> model.taken(a[0]);
            case 20 -> model.slack(a[0]);
            case 21 -> model.carry(a[0]);
            case 22 -> model.pole(a[0]);
            case 23 -> model.light(a[0]);
            case TOOK -> model.took(a[0], a[1]);
            case 25 -> model.game(a[0]);
            case 26 -> model.pence(a[0], a[1]);
            case NOTE -> model.note(a[0], a[1]);
            case RULED -> model.ruled(a[0]);
            case LOOK -> model.look(a[0]);
            case SEED -> model.seed(a[0]);
            case 31 -> model.years(a[0], a[1]);
            case 32 -> model.count(a[0]);
            case 33 -> model.image(a[0]);
            default -> model.back(a[0]);
        };
    }
}
