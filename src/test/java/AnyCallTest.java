import java.util.ArrayList;
import java.util.List;
import java.util.Random;

/** Any arguments in any state: no call throws, and what is refused or asks alone changes nothing. */
public final class AnyCallTest {
    private static final int[] FAR = {
        Integer.MIN_VALUE, Integer.MIN_VALUE + 1, -3201, -1000, -401, -400, -2, -1, 0, 1, 2, 3, 4, 7, 8, 9, 10, 11, 12, 13,
        30, 50, 51, 63, 64, 65, 100, 101, 364, 365, 400, 401, 3200, 3201, 5000, 5001, 0x11111111, 0x99999999, 0xAAAAAAAA,
        Integer.MAX_VALUE - 1, Integer.MAX_VALUE,
    };
    // More of plan and take than of others, so that runs get to blocks, and to blocks that are taken.
    private static final String[] CHANGES = {
        "wall", "cell", "cell", "motifs", "motifs", "limit", "limit", "saw", "saw", "plan", "plan", "plan", "plan", "river", "river",
        "days", "days", "take", "take", "take", "take", "order", "order", "again", "again",
    };
    private static final String[] QUESTIONS = {
        "block", "at", "above", "ordered", "piled", "sun", "strikes", "like", "count",
    };
    private static final int RUNS = 500;
    // The last calls that are promised are made too, in runs that are not looked at.
    private static final int LOOKED_AT = 200;

    private final Random random;
    private final Run run = new Run();

    private AnyCallTest(int seed) {
        random = new Random(seed);
    }

    public static void main(String[] args) {
        Check check = new Check();
        for (int seed = 0; seed < RUNS; seed++) {
            AnyCallTest test = new AnyCallTest(seed);
            if (seed % 2 == 0) {
                test.lookAtRun(check);
            } else {
                test.makeRun();
            }
        }
        check.end();
    }

    private void lookAtRun(Check check) {
        while (run.length() < LOOKED_AT) {
            boolean looked = run.length() % 3 == 0;
            List<Integer> before = looked ? all() : null;
            Call call = anyCall();
            int answer = run.make(call);
            boolean unchanged = call.isRefusedBy(answer) || List.of(QUESTIONS).contains(call.name()) || call.name().equals("image");
            if (looked && unchanged) {
                check.due(call + " was refused, or asks alone: nothing changes", before.equals(all()), true);
            }
        }
    }

    private void makeRun() {
        while (run.length() < Run.MOST_CALLS) {
            run.make(anyCall());
        }
    }

    private int number() {
        return random.nextInt(3) == 0 ? FAR[random.nextInt(FAR.length)] : random.nextInt(9);
    }

    private Call anyCall() {
        int kind = random.nextInt(CHANGES.length + QUESTIONS.length + 1);
        if (kind == 0) {
            return new Call("image", number());
        }
        String name = kind <= CHANGES.length ? CHANGES[kind - 1] : QUESTIONS[kind - 1 - CHANGES.length];
        return switch (name) {
            case "plan", "order" -> new Call(name);
            case "limit" -> new Call(name, random.nextInt(4) == 0 ? number() : 20 + random.nextInt(200));
            case "saw", "days", "take", "again", "ordered", "sun", "count" -> new Call(name, number());
            case "cell" -> new Call(name, number(), number(), number(), number());
            case "like" -> new Call(name, number(), number(), number());
            default -> new Call(name, number(), number());
        };
    }

    private int ask(String name, int... numbers) {
        return run.ask(new Call(name, numbers));
    }

    /** All that can be seen from outside but for cells and the river, which show in block(). */
    private List<Integer> all() {
        List<Integer> seen = new ArrayList<>();
        for (int what = 0; what <= 10; what++) {
            seen.add(ask("count", what));
        }
        for (int block = 0; block < seen.get(2); block++) {
            for (int what = 0; what <= 11; what++) {
                seen.add(ask("block", block, what));
            }
            seen.add(ask("ordered", block));
        }
        for (int pile = 0; pile < seen.get(5); pile++) {
            for (int k = 0; k < seen.get(3); k++) {
                seen.add(ask("piled", pile, k));
            }
        }
        return seen;
    }
}
