import java.util.ArrayList;
import java.util.List;
import java.util.Random;

/** Any arguments in any state: no call throws, and what is refused changes nothing. */
public final class AnyCallTest {
    private static final int[] FAR = {
        Integer.MIN_VALUE, Integer.MIN_VALUE + 1, -3201, -1000, -401, -400, -2, -1, 0, 1, 2, 3, 4, 7, 8, 9, 10, 11, 12, 13,
        30, 50, 51, 63, 64, 65, 100, 101, 364, 365, 400, 401, 3200, 3201, 5000, 5001, 0x11111111, 0x99999999, 0xAAAAAAAA,
        Integer.MAX_VALUE - 1, Integer.MAX_VALUE,
    };
    private static final int CHANGES = 13;

    private final Random random;
    private final TempleRaised x = new TempleRaised();

    private AnyCallTest(int seed) {
        random = new Random(seed);
    }

    public static void main(String[] args) {
        Check check = new Check();
        for (int seed = 0; seed < 300; seed++) {
            new AnyCallTest(seed).run(check);
        }
        check.end();
    }

    private void run(Check check) {
        for (int call = 0; call < 512; call++) {
            List<Integer> before = call % 8 == 0 ? all() : null;
            int kind = random.nextInt(CHANGES + 10);
            boolean refused = kind < CHANGES ? !isDone(kind) : isAsked(kind - CHANGES);
            if (before != null && refused) {
                check.due("kind " + kind + " was refused, or asks alone: nothing changes", before.equals(all()), true);
            }
        }
    }

    private int number() {
        return random.nextInt(3) == 0 ? FAR[random.nextInt(FAR.length)] : random.nextInt(9);
    }

    private boolean isDone(int kind) {
        switch (kind) {
            case 0:
                return random.nextInt(4) == 0 && x.wall(number(), number());
            case 1:
                return x.cell(number(), number(), number(), number());
            case 2:
                return x.motifs(number(), number());
            case 3:
                return x.limit(random.nextInt(4) == 0 ? number() : 20 + random.nextInt(200));
            case 4:
                return x.saw(number());
            case 5:
            case 6:
                return x.plan() != TempleRaised.NONE;
            case 7:
                return x.river(number(), number());
            case 8:
                return x.days(number()) != TempleRaised.NONE;
            case 9:
            case 10:
                return x.take(number()) != TempleRaised.NONE;
            case 11:
                return x.order() != TempleRaised.NONE;
            default:
                return x.again(number());
        }
    }

    private boolean isAsked(int kind) {
        switch (kind) {
            case 0:
                x.block(number(), number());
                break;
            case 1:
                x.at(number(), number());
                break;
            case 2:
                x.above(number(), number());
                break;
            case 3:
                x.ordered(number());
                break;
            case 4:
                x.piled(number(), number());
                break;
            case 5:
                x.sun(number());
                break;
            case 6:
                x.strikes(number(), number());
                break;
            case 7:
                x.like(number(), number(), number());
                break;
            case 8:
                x.count(number());
                break;
            default:
                x.image(number());
                break;
        }
        return true;
    }

    /** All that can be seen from outside but for cells and the river, which show in block(). */
    private List<Integer> all() {
        List<Integer> seen = new ArrayList<>();
        for (int what = 0; what <= 10; what++) {
            seen.add(x.count(what));
        }
        for (int block = 0; block < x.count(2); block++) {
            for (int what = 0; what <= 11; what++) {
                seen.add(x.block(block, what));
            }
            seen.add(x.ordered(block));
        }
        for (int pile = 0; pile < x.count(5); pile++) {
            for (int k = 0; k < x.count(3); k++) {
                seen.add(x.piled(pile, k));
            }
        }
        return seen;
    }
}
