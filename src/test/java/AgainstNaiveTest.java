import java.util.ArrayList;
import java.util.List;
import java.util.Random;

/** Runs of calls by chance (the same ones each time), answered by the program and by NaiveMoney. */
public final class AgainstNaiveTest {
    private static final int RUNS = 260;
    private static final int CALLS = 512;
    private static final int[] EDGES = {Integer.MIN_VALUE, -1000000, -999999, -2, -1, 0, 1, 2, 3, 4, 5,
        6, 7, 8, 12, 15, 16, 20, 21, 60, 61, 63, 64, 89, 90, 150, 500, 501, 900, 1000, 1001, 9999, 10000,
        99999, 100000, 999999, 1000000, 999999999, 1000000000, Integer.MAX_VALUE};

    private final Random random;
    private final NowhereMoney x = new NowhereMoney();
    private final NaiveMoney y = new NaiveMoney();
    private final List<String> told = new ArrayList<>();
    private final int strange;
    private final TextMaker maker;
    private final int houses;
    private final int banks;
    private final int most;
    private final int run;
    private int calls;
    private static int wrong;

    private AgainstNaiveTest(int run) {
        this.run = run;
        random = new Random(7919L * run + 17);
        maker = new TextMaker(random);
        banks = run % 8 < 5 ? 4 : 2;
        strange = run % 5 == 0 ? 12 : 60;
        houses = run % 3 == 0 ? 2 : run % 3 == 1 ? 3 : 6;
        most = run % 7 == 0 ? 99999 : run % 2 == 0 ? 500 : 3000;
    }

    private int below(int n) {
        return random.nextInt(n);
    }

    /** Mostly of the bounds, at times what can't be. */
    private int pick(int least, int greatest) {
        if (below(strange) == 0) {
            return EDGES[below(EDGES.length)];
        }
        if (below(strange) == 0) {
            return below(2) == 0 ? least - 1 : greatest + 1;
        }
        return least + below(greatest - least + 1);
    }

    private int house() {
        return pick(0, houses - 1);
    }

    private int bank() {
        return pick(0, banks - 1);
    }

    private int amount() {
        int v = pick(1, most);
        return below(3) == 0 ? v / 100 * 100 : v;
    }

    /** A day that is near NOW more often than not. */
    private int dayNear() {
        return below(2) == 0 ? pick(0, 89) : y.s.now + below(25) - 4;
    }

    private void same(String call, long got, long due) {
        calls++;
        told.add(call + " = " + got);
        if (got != due) {
            wrong++;
            System.out.println("run " + run + ", call " + calls + ": " + call + " answered " + got
                + ", the plain reading says " + due);
        }
    }

    private void same(String call, boolean got, boolean due) {
        same(call, got ? 1 : 0, due ? 1 : 0);
    }

    private void tell(int k, String text) {
        String s = text.length() > 400 ? text.substring(0, 400) : text;
        for (int i = 0; i < s.length(); i += 20) {
            int[] v = new int[5];
            for (int j = 0; j < 20; j++) {
                int sign = i + j < s.length() ? s.charAt(i + j) : 32;
                v[j / 4] = v[j / 4] << 8 | sign;
            }
            same("feed", x.feed(v[0], v[1], v[2], v[3], v[4]), y.feed(v));
        }
        same("end(" + s.length() + ")", x.end(s.length()), y.end(s.length()));
        same("text(" + k + ") of " + s, x.text(k), y.text(k));
        if (below(2) == 0 || y.fault != 0) {
            same("fault(0)", x.fault(0), y.fault(0));
            same("fault(1)", x.fault(1), y.fault(1));
        }
    }

    private void tellSome() {
        int k = pick(0, 4);
        String s = k == 4 || below(20) == 0 ? maker.signs() : maker.law();
        tell(k, below(6) == 0 ? maker.spoilt(s) : s);
    }

    // ---- calls

    private void change(int which) {
        if (which < 9) {
            int a = house(), b = bank(), c = house(), d = bank(), e = amount();
            same("pay(" + a + "," + b + "," + c + "," + d + "," + e + ")", x.pay(a, b, c, d, e),
                y.pay(a, b, c, d, e));
        } else if (which < 13) {
            same("day()", x.day(), y.day());
        } else if (which < 15) {
            int a = house(), b = bank(), v = below(3) > 0 ? amount() : -amount();
            same("cash(" + a + "," + b + "," + v + ")", x.cash(a, b, v), y.cash(a, b, v));
        } else if (which == 15) {
            int what = pick(0, 1), day = below(3) == 0 ? pick(0, 89) : y.s.now + 1 + below(9);
            boolean is = below(4) > 0;
            same("told(" + what + "," + day + "," + is + ")", x.told(what, day, is), y.told(what, day, is));
        } else if (which == 16) {
            strangeChange(below(8));
        } else if (which == 17) {
            int a = below(12) == 0 ? 0 : amount(), t = pick(0, 2);
            same("payment(" + a + "," + t + ")", x.payment(a, t), y.payment(a, t));
        }
    }

    private void strangeChange(int which) {
        if (which == 0) {
            int a = pick(0, 2), b = pick(0, 2), d = pick(0, 5);
            same("rail(" + a + "," + b + "," + d + ")", x.rail(a, b, d), y.rail(a, b, d));
        } else if (which == 1) {
            int a = bank(), t = pick(0, 2);
            same("town(" + a + "," + t + ")", x.town(a, t), y.town(a, t));
        } else if (which == 2) {
            int set = pick(0, 63);
            same("kiters(" + set + ")", x.kiters(set), y.kiters(set));
        } else if (which == 3) {
            boolean taken = below(2) == 0;
            same("image(" + taken + ")", x.image(taken), y.image(taken));
        } else if (which == 4) {
            int n = pick(0, 40);
            same("end(" + n + ")", x.end(n), y.end(n));
        } else if (which == 5) {
            int v = random.nextInt();
            same("feed", x.feed(v, 1, 2, 3, 4), y.feed(v, 1, 2, 3, 4));
        } else {
            tellSome();
        }
    }

    private void ask(int which) {
        int h = house(), b = bank(), set = pick(1, 15), day = dayNear();
        switch (which) {
            case 0: { int w = pick(0, 3); same("book(" + h + "," + b + "," + w + ")", x.book(h, b, w), y.book(h, b, w)); break; }
            case 1: { int k = pick(0, Math.max(0, y.s.cheques.size() - 1)), w = pick(0, 9); same("cheque(" + k + "," + w + ")", x.cheque(k, w), y.cheque(k, w)); break; }
            case 2: { int w = pick(0, 2); same("really(" + h + "," + w + ")", x.really(h, w), y.really(h, w)); break; }
            case 3: { int w = pick(0, 5), d = y.s.now - below(8); same("kept(" + d + "," + h + "," + w + ")", x.kept(d, h, w), y.kept(d, h, w)); break; }
            case 4: { int w = pick(0, 4); same("sums(" + w + ")", x.sums(w), y.sums(w)); break; }
            case 5: { int c = bank(); same("flight(" + b + "," + c + "," + day + ")", x.flight(b, c, day), y.flight(b, c, day)); break; }
            case 6: { int k = pick(2, 4), a = pick(1, 9999), w = pick(0, 1); same("ring(" + k + "," + a + "," + day + "," + w + ")", x.ring(k, a, day, w), y.ring(k, a, day, w)); break; }
            case 7: { int k = pick(2, 4), a = pick(1, 9999), w = below(3) == 0 ? pick(0, 20) : pick(0, 4); same("letIn(" + k + "," + a + "," + day + "," + w + ")", x.letIn(k, a, day, w), y.letIn(k, a, day, w)); break; }
            case 8: { int k = pick(2, 4), w = pick(0, 2); same("leastHold(" + k + "," + day + "," + w + ")", x.leastHold(k, day, w), y.leastHold(k, day, w)); break; }
            case 9: { int k = pick(0, Math.max(0, y.s.cheques.size() - 1)), w = pick(0, 3); same("chain(" + k + "," + w + ")", x.chain(k, w), y.chain(k, w)); break; }
            case 10: { int k = pick(0, Math.max(0, y.s.entries.size() - 1)), w = pick(0, 6); same("entry(" + k + "," + w + ")", x.entry(k, w), y.entry(k, w)); break; }
            case 11: { int w = pick(0, 999999999) >> below(20), c = pick(0, 500), n = pick(0, 60); same("growth(" + w + "," + c + "," + n + ")", x.growth(w, c, n), y.growth(w, c, n)); break; }
            case 12: case 13: { int w = pick(0, 7); same("sign(" + h + "," + set + "," + w + ")", x.sign(h, set, w), y.sign(h, set, w)); break; }
            case 14: { int w = pick(0, 4); same("cries(" + set + "," + w + ")", x.cries(set, w), y.cries(set, w)); break; }
            case 15: { int w = pick(0, 1); same("like(" + h + "," + set + "," + w + ")", x.like(h, set, w), y.like(h, set, w)); break; }
            case 16: same("alone(" + h + "," + b + ")", x.alone(h, b), y.alone(h, b)); break;
            case 17: case 18: { int o = pick(0, 3), w = below(2) == 0 ? pick(0, 2) : pick(10, 13); same("ending(" + o + "," + w + ")", x.ending(o, w), y.ending(o, w)); break; }
            case 19: { int w = EDGES[below(EDGES.length)]; same("ending(-1," + w + ")", x.ending(-1, w), y.ending(-1, w)); break; }
            case 20: same("snowed()", x.snowed(), y.snowed()); break;
            case 21: case 22: { int w = below(2) == 0 ? pick(0, 1) : 10 * (1 + below(2)) + pick(0, 5); same("payFloat(" + h + "," + w + ")", x.payFloat(h, w), y.payFloat(h, w)); break; }
            case 23: { int w = pick(0, 5), d = y.s.now - below(8); same("room(" + d + "," + w + ")", x.room(d, w), y.room(d, w)); break; }
            case 24: { int p = pick(1, 1000); same("seen(" + p + ")", x.seen(p), y.seen(p)); break; }
            case 25: { int a = pick(0, 99999), w = pick(0, 1); same("burnt(" + b + "," + h + "," + a + "," + w + ")", x.burnt(b, h, a, w), y.burnt(b, h, a, w)); break; }
            case 26: { int n = pick(0, 20); same("honest(" + n + ")", x.honest(n), y.honest(n)); break; }
            default: { int w = pick(0, 6); same("look(" + w + ")", x.look(w), y.look(w)); break; }
        }
    }

    private void go() {
        for (int bank = 0; bank < 4; bank++) {
            int t = below(3);
            same("town", x.town(bank, t), y.town(bank, t));
            if (below(3) > 0) {
                tell(bank, maker.law());
            }
        }
        tell(4, maker.signs());
        int snow = below(4) == 0 ? 30 : below(4);
        for (int i = 0; i < snow; i++) {
            int what = below(2), day = below(2) == 0 ? i + 4 : below(90);
            same("told", x.told(what, day, true), y.told(what, day, true));
        }
        for (int i = below(6); i > 0; i--) {
            int h = below(houses), b = below(banks), v = 1 + below(most);
            same("cash", x.cash(h, b, v), y.cash(h, b, v));
        }
        boolean slow = run % 4 == 0;
        boolean crowd = run % 6 == 1;
        while (calls < CALLS - 60) {
            change(slow && below(4) > 0 ? 9 : crowd && below(3) > 0 ? below(30) == 0 ? 9 : 0 : below(18));
            for (int n = below(slow ? 4 : 3); n > 0; n--) {
                ask(below(28));
            }
        }
        for (int which = 0; which < 28; which++) {
            ask(which);
        }
        if (calls > CALLS) {
            throw new IllegalStateException("too many calls for one object: " + calls);
        }
    }

    public static void main(String[] args) {
        int runs = args.length > 0 ? Integer.parseInt(args[0]) : RUNS;
        for (int run = 1; run <= runs; run++) {
            AgainstNaiveTest test = new AgainstNaiveTest(run);
            int before = wrong;
            test.go();
            if (wrong > before && args.length > 1) {
                test.told.forEach(System.out::println);
                break;
            }
        }
        System.out.println(wrong == 0 ? runs + " runs agree" : wrong + " answers differ");
        if (wrong != 0) {
            System.exit(1);
        }
    }
}
