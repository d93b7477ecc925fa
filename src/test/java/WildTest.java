import java.util.Random;

/** Calls with any numbers at all, far more than an object is used for: none may throw or hang. */
public final class WildTest {
    private static final int[] NUMBERS = {Integer.MIN_VALUE, Integer.MIN_VALUE + 1, -1000000000, -100000,
        -2, -1, 0, 1, 2, 3, 4, 5, 6, 10, 13, 15, 20, 25, 63, 89, 90, 149, 150, 899, 900, 1000, 99999, 999999,
        999999999, 1000000000, Integer.MAX_VALUE - 1, Integer.MAX_VALUE};

    private final Random random;

    private WildTest(int seed) {
        random = new Random(seed);
    }

    private int n() {
        int way = random.nextInt(8);
        return way == 0 ? random.nextInt() : way < 3 ? NUMBERS[random.nextInt(NUMBERS.length)]
            : random.nextInt(way < 6 ? 4 : 100);
    }

    private int sign() {
        String signs = "hold limit fee cry when or and not amount book count turn 0123 ;+-*/()<=>  ";
        return random.nextInt(40) == 0 ? random.nextInt(256) : signs.charAt(random.nextInt(signs.length()));
    }

    private int word() {
        return sign() << 24 | sign() << 16 | sign() << 8 | sign();
    }

    private long call(NowhereMoney x, int which) {
        switch (which) {
            case 0: return x.town(n(), n()) ? 1 : 0;
            case 1: return x.rail(n(), n(), n()) ? 1 : 0;
            case 2: return x.told(n(), n(), random.nextBoolean()) ? 1 : 0;
            case 3: return x.feed(word(), word(), word(), word(), word());
            case 4: return x.end(n()) ? 1 : 0;
            case 5: return x.text(n());
            case 6: return x.fault(n());
            case 7: return x.cash(n(), n(), n()) ? 1 : 0;
            case 8: return x.pay(n(), n(), n(), n(), n());
            case 9: return random.nextInt(4) == 0 ? x.day() : 0;
            case 10: return x.book(n(), n(), n());
            case 11: return x.cheque(n(), n());
            case 12: return x.really(n(), n());
            case 13: return x.kept(n(), n(), n());
            case 14: return x.sums(n());
            case 15: return x.flight(n(), n(), n());
            case 16: return x.ring(n(), n(), n(), n());
            case 17: return x.letIn(n(), n(), n(), n());
            case 18: return x.leastHold(n(), n(), n());
            case 19: return x.chain(n(), n());
            case 20: return x.entry(n(), n());
            case 21: return x.growth(n(), n(), n());
            case 22: return x.sign(n(), n(), n());
            case 23: return x.kiters(n()) ? 1 : 0;
            case 24: return x.cries(n(), n());
            case 25: return x.like(n(), n(), n());
            case 26: return x.alone(n(), n());
            case 27: return x.ending(n(), n());
            case 28: return x.snowed();
            case 29: return x.payment(n(), n());
            case 30: return x.payFloat(n(), n());
            case 31: return x.room(n(), n());
            case 32: return x.seen(n());
            case 33: return x.burnt(n(), n(), n(), n());
            case 34: return x.honest(n());
            case 35: return random.nextInt(9) == 0 && x.image(random.nextInt(3) == 0) ? 1 : 0;
            default: return x.look(n());
        }
    }

    public static void main(String[] args) {
        long first = 0;
        for (int round = 0; round < 2; round++) {
            long all = 0;
            for (int seed = 0; seed < 6; seed++) {
                WildTest test = new WildTest(seed);
                NowhereMoney x = new NowhereMoney();
                for (int i = 0; i < 1500; i++) {
                    x.cash(i % 6, i % 4, 999999);
                }
                for (int k = 0; k < 50 * seed; k++) {
                    x.pay(k % 6, k % 3, k % 4, 1 + k % 3, 100 * k + 1);
                }
                for (int i = 0; i < 8000; i++) {
                    all = all * 31 + test.call(x, test.random.nextInt(37));
                }
            }
            if (round == 1 && all != first) {
                System.out.println("the same calls answered otherwise");
                System.exit(1);
            }
            first = all;
        }
        System.out.println("no call threw");
    }
}
