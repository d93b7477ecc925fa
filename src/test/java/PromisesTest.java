/** Each promise by itself: ordinary calls, the edges that the document names, and wrong ones. */
public final class PromisesTest {
    private static final int NO = -100000000;
    private static final int[] WRONG = {Integer.MIN_VALUE, -1000, -1, 1000, 1000000, Integer.MAX_VALUE};
    private static int wrong;
    private static int promise;

    private static void due(String call, int got, int want) {
        if (got != want) {
            wrong++;
            System.out.println("promise " + promise + ": " + call + " answered " + got + ", due is " + want);
        }
    }

    private static void yes(String call, boolean got) {
        due(call, got ? 1 : 0, 1);
    }

    private static void no(String call, boolean got) {
        due(call, got ? 1 : 0, 0);
    }

    private static void feed(NowhereMoney x, String s) {
        for (int i = 0; i < s.length(); i += 20) {
            int[] v = new int[5];
            for (int j = 0; j < 20; j++) {
                v[j / 4] = v[j / 4] << 8 | (i + j < s.length() ? s.charAt(i + j) : 32);
            }
            x.feed(v[0], v[1], v[2], v[3], v[4]);
        }
        x.end(s.length());
    }

    private static int text(NowhereMoney x, int k, String s) {
        feed(x, s);
        return x.text(k);
    }

    private static void stands(NowhereMoney x, int k, String s, int lines) {
        due("text(" + k + ") of " + s, text(x, k, s), lines);
        due("fault(0) of " + s, x.fault(0), 0);
        due("fault(1) of " + s, x.fault(1), -1);
    }

    private static void faulty(int k, String s, int fault, int place) {
        NowhereMoney x = new NowhereMoney();
        due("text(" + k + ") of " + s, text(x, k, s), -1);
        due("fault(0) of " + s, x.fault(0), fault);
        due("fault(1) of " + s, x.fault(1), place);
        no("end(1) of an empty tape", x.end(1));
    }

    private static void days(NowhereMoney x, int n) {
        for (int i = 0; i < n; i++) {
            x.day();
        }
    }

    /** Banks 0 and 3 in town 0, 1 in town 1, 2 in town 2; each rail of two days. */
    private static NowhereMoney apart() {
        NowhereMoney x = new NowhereMoney();
        x.town(1, 1);
        x.town(2, 2);
        return x;
    }

    private static void p1New() {
        NowhereMoney x = new NowhereMoney();
        for (int what = 0; what <= 6; what++) {
            due("look(" + what + ")", x.look(what), what == 4 ? 1 : 0);
        }
        for (int what = 0; what <= 4; what++) {
            due("sums(" + what + ")", x.sums(what), 0);
        }
        due("fault(0)", x.fault(0), 0);
        due("fault(1)", x.fault(1), -1);
        due("cheque(0, 0)", x.cheque(0, 0), -2);
        due("entry(0, 0)", x.entry(0, 0), NO);
        due("NONE", NowhereMoney.NONE, -1);
        due("flight(3, 0, 0): all banks in one town", x.flight(3, 0, 0), 1);
        no("end(1)", x.end(1));
        no("image(false)", x.image(false));
    }

    private static void p2Town() {
        NowhereMoney x = new NowhereMoney();
        yes("town(3, 2)", x.town(3, 2));
        due("flight(3, 0, 0)", x.flight(3, 0, 0), 2);
        yes("town(3, 0)", x.town(3, 0));
        due("flight(3, 0, 0)", x.flight(3, 0, 0), 1);
        for (int bad : WRONG) {
            no("town(" + bad + ", 0)", x.town(bad, 0));
            no("town(0, " + bad + ")", x.town(0, bad));
        }
        no("town(4, 0)", x.town(4, 0));
        no("town(0, 3)", x.town(0, 3));
        x.image(true);
        x.pay(0, 0, 1, 1, 5);
        no("town(0, 1) with a cheque", x.town(0, 1));
        x.image(false);
        yes("town(0, 1) without it again", x.town(0, 1));
    }

    private static void p3Rail() {
        NowhereMoney x = apart();
        due("flight(0, 1, 0)", x.flight(0, 1, 0), 2);
        yes("rail(1, 0, 5)", x.rail(1, 0, 5));
        due("flight(0, 1, 0)", x.flight(0, 1, 0), 5);
        due("flight(1, 0, 0)", x.flight(1, 0, 0), 5);
        due("flight(1, 2, 0) as before", x.flight(1, 2, 0), 2);
        yes("rail(0, 1, 0)", x.rail(0, 1, 0));
        due("flight(0, 1, 0)", x.flight(0, 1, 0), 1);
        no("rail(0, 1, 6)", x.rail(0, 1, 6));
        no("rail(0, 1, -1)", x.rail(0, 1, -1));
        no("rail(2, 2, 1)", x.rail(2, 2, 1));
        no("rail(3, 1, 1)", x.rail(3, 1, 1));
        no("rail(1, 3, 1)", x.rail(1, 3, 1));
        for (int bad : WRONG) {
            no("rail(" + bad + ", 1, 1)", x.rail(bad, 1, 1));
            no("rail(1, " + bad + ", 1)", x.rail(1, bad, 1));
            no("rail(1, 2, " + bad + ")", x.rail(1, 2, bad));
        }
        x.pay(0, 0, 0, 2, 5);
        yes("rail(0, 2, 4) with cheques", x.rail(0, 2, 4));
        due("cheque(0, 7): TRAINS as they were", x.cheque(0, 7), 2);
    }

    private static void p4Told() {
        NowhereMoney x = apart();
        no("told(0, 0, true): NOW", x.told(0, 0, true));
        yes("told(0, 1, true)", x.told(0, 1, true));
        yes("told(1, 89, true)", x.told(1, 89, true));
        no("told(1, 90, true)", x.told(1, 90, true));
        no("told(2, 5, true)", x.told(2, 5, true));
        no("told(-1, 5, true)", x.told(-1, 5, true));
        yes("told(0, 6, true): a Sunday", x.told(0, 6, true));
        yes("told(0, 6, false)", x.told(0, 6, false));
        due("flight(0, 0, 5): a Sunday all the same", x.flight(0, 0, 5), 2);
        due("flight(0, 0, 1): closed", x.flight(0, 0, 1), -1);
        due("flight(0, 0, 0)", x.flight(0, 0, 0), 2);
        yes("told(0, 1, false)", x.told(0, 1, false));
        due("flight(0, 0, 0)", x.flight(0, 0, 0), 1);
        yes("told(1, 2, true)", x.told(1, 2, true));
        yes("told(1, 2, false)", x.told(1, 2, false));
        due("flight(0, 1, 0)", x.flight(0, 1, 0), 2);
        yes("told(1, 2, true)", x.told(1, 2, true));
        due("flight(0, 1, 0)", x.flight(0, 1, 0), 3);
        due("flight(0, 1, 2): snow hinders no business", x.flight(0, 1, 2), 2);
        days(x, 3);
        no("told(0, 3, true)", x.told(0, 3, true));
        no("told(1, 2, false)", x.told(1, 2, false));
        yes("told(0, 4, true)", x.told(0, 4, true));
        x.day();
        due("look(4)", x.look(4), 0);
        due("pay on a closed day", x.pay(0, 0, 0, 0, 1), -1);
        for (int bad : WRONG) {
            no("told(0, " + bad + ", true)", x.told(0, bad, true));
            no("told(" + bad + ", 50, true)", x.told(bad, 50, true));
        }
    }

    private static void p5Feed() {
        NowhereMoney x = new NowhereMoney();
        for (int n = 1; n <= 20; n++) {
            due("feed", x.feed(n, 0, -1, 7, 9), 20 * n);
        }
        due("feed of a full tape", x.feed(1, 2, 3, 4, 5), -1);
        yes("end(400)", x.end(400));
        yes("end(381)", x.end(381));
        due("feed behind 381", x.feed(1, 2, 3, 4, 5), -1);
        yes("end(380)", x.end(380));
        due("feed behind 380", x.feed(1, 2, 3, 4, 5), 400);
        yes("end(0)", x.end(0));
        // 'fee ' '7;  ' and blanks: the highest byte of each number comes first
        due("feed", x.feed(0x66656520, 0x373b2020, 0x20202020, 0x0a0a0a0a, 0x20202020), 20);
        due("text(0)", x.text(0), 1);
        due("feed", x.feed(0x66656520, 0x373b2020, 0x20202020, 0x0a0a0a0a, 0xff202020), 20);
        due("text(0)", x.text(0), -1);
        due("fault(1)", x.fault(1), 16);
    }

    private static void p6End() {
        NowhereMoney x = new NowhereMoney();
        yes("end(0) of nothing", x.end(0));
        no("end(1) of nothing", x.end(1));
        x.feed(0x686f6c64, 0x20313b68, 0x20202020, 0x20202020, 0x20202020);
        no("end(21)", x.end(21));
        no("end(-1)", x.end(-1));
        for (int bad : WRONG) {
            no("end(" + bad + ")", x.end(bad));
        }
        yes("end(20), as it was", x.end(20));
        yes("end(7)", x.end(7));
        no("end(8)", x.end(8));
        due("text(0) of the first seven", x.text(0), 1);
        no("end(1): the tape is empty", x.end(1));
    }

    private static void p7Text() {
        NowhereMoney x = new NowhereMoney();
        stands(x, 0, "", 0);
        stands(x, 4, " \n ", 0);
        stands(x, 0, "hold 1;limit 2;fee 3;", 3);
        stands(x, 1, "hold 1when 1=1;", 1);
        stands(x, 2, "hold amount+far-rail*house/3+weekday*book*count;", 1);
        stands(x, 3, "fee 00000/00001 when not not not not((((1=1))))or(2<3)and not 4>5;", 1);
        stands(x, 4, "cry when turn>count and round=match or not(book<low)and far=0;", 1);
        stands(x, 4, "cry when not not not not not not not not 1=1;", 1);
        stands(x, 4, "cry when ((((((((1=1))))))));", 1);
        stands(x, 4, "cry when (((((((1=1))))))) and (((((((1=1)))))));", 1);
        stands(x, 0, "hold 1;hold 2;hold 3;hold 4;hold 5;hold 6;hold 7;hold 8;hold 9;hold 1;hold 2;hold 3;", 12);
        for (int k : new int[] {-1, 5, Integer.MIN_VALUE, Integer.MAX_VALUE}) {
            text(x, 0, "hold");
            due("fault(0)", x.fault(0), 1);
            due("text(" + k + ")", text(x, k, "hold 1;"), -1);
            due("fault(0): no such one", x.fault(0), 0);
            due("fault(1): no such one", x.fault(1), -1);
            no("end(1): the tape is empty", x.end(1));
        }
        // a full tape: 197 times one more
        StringBuilder full = new StringBuilder("fee 1");
        while (full.length() < 399) {
            full.append("+1");
        }
        stands(x, 0, full + ";", 1);
        x.image(true);
        x.pay(1, 0, 2, 2, 7);
        x.day();
        due("sums(3)", x.sums(3), 198);
        x.image(false);
        faulty(0, full + "+", 1, 400);
        // a text with a fault leaves the old one
        stands(x, 0, "hold 7;", 1);
        due("text(0)", text(x, 0, "hold 9;hold"), -1);
        x.pay(0, 0, 0, 0, 10);
        due("cheque(0, 8)", x.cheque(0, 8), 7);
        stands(x, 0, "", 0);
        x.pay(0, 0, 0, 0, 10);
        due("cheque(1, 8)", x.cheque(1, 8), 0);
    }

    /** What a law's sum or condition is, seen by the hold of a cheque. */
    private static void holdIs(String law, int want) {
        NowhereMoney x = apart();
        x.cash(4, 1, 250);
        days(x, 2);
        x.pay(4, 0, 4, 1, 50);
        if (text(x, 1, law) < 0) {
            due("fault of " + law, x.fault(0), 0);
        }
        x.pay(3, 2, 4, 1, 1234);
        due("cheque(1, 8) by " + law, x.cheque(1, 8), want);
    }

    private static void p7Laws() {
        holdIs("hold amount/100;", 12);
        holdIs("hold rail;", 2);
        holdIs("hold far;", 1);
        holdIs("hold house;", 4);
        holdIs("hold weekday;", 2);
        holdIs("hold book/100;", 3);
        holdIs("hold count;", 1);
        holdIs("hold 2+3*4;", 14);
        holdIs("hold 9-3-2;", 4);
        holdIs("hold 17/3*2;", 10);
        holdIs("hold 2*9/4;", 4);
        holdIs("hold 5-7/2;", 2);
        // / goes towards 0: -7 by 2 is -3, so 10 behind it is 7
        holdIs("hold 10+0*1-7/2;", 7);
        holdIs("hold 3-10*1;", 0);
        holdIs("hold 21;", 20);
        holdIs("hold 20;", 20);
        // ints wrap: 65536 * 65536 is 0, 46341 * 46341 is below 0
        holdIs("hold 65536*65536+3;", 3);
        holdIs("hold 46341*46341;", 0);
        holdIs("hold 5 when 46341*46341<0;hold 6;", 5);
        holdIs("limit 3;hold 5 when 1=2;hold 6 when 2=2;hold 7;", 6);
        holdIs("hold 5 when 1=2;", 0);
        holdIs("hold 5 when 1=2 and 1=1 or 1=1;hold 6;", 5);
        holdIs("hold 5 when 1=1 or 1=1 and 1=2;hold 6;", 5);
        holdIs("hold 5 when (1=1 or 1=1) and 1=2;hold 6;", 6);
        holdIs("hold 5 when not 1=2 and 1=2;hold 6;", 6);
        holdIs("hold 5 when not (1=2 and 1=2);hold 6;", 5);
        holdIs("hold 5 when not not 1=1;hold 6;", 5);
        holdIs("hold 5 when 1<1;hold 6 when 1>1;hold 7 when 1=1;", 7);
        holdIs("hold 5 when 1>0 and 0<1;", 5);
        holdIs("fee 1;limit 2;", 0);
    }

    private static void p8Fault() {
        faulty(0, "hold", 1, 4);
        faulty(0, "hold  ", 1, 6);
        faulty(0, "hold 1", 1, 6);
        faulty(0, " Hold 1;", 1, 1);
        faulty(0, "holds 1;", 1, 0);
        faulty(0, "holdz 1;", 1, 0);
        faulty(0, "holda 1;", 1, 0);
        faulty(0, "holdZ 1;", 1, 0);
        faulty(0, "holdA 1;", 1, 0);
        faulty(0, "hold[1;", 1, 4);
        faulty(0, "hold@1;", 1, 4);
        faulty(0, "hold{1;", 1, 4);
        faulty(0, "hold`1;", 1, 4);
        faulty(0, "hold 1:", 1, 6);
        faulty(0, "hold 1;;", 1, 7);
        faulty(0, "hold 123456;", 1, 5);
        faulty(0, "hold 1 2;", 1, 7);
        faulty(0, "hold -1;", 1, 5);
        faulty(0, "hold (1);", 1, 5);
        faulty(0, "hold 1.;", 1, 6);
        faulty(0, "hold\t1;", 1, 4);
        faulty(0, "hold \u00e9;", 1, 5);
        faulty(0, "hold turn;", 1, 5);
        faulty(0, "cry when 1=1;", 1, 0);
        faulty(0, "hold 1 when;", 1, 11);
        faulty(0, "hold 1 when 1;", 1, 13);
        faulty(0, "hold 1 when 1=1=1;", 1, 15);
        faulty(0, "hold 1 when (1=1;", 1, 16);
        faulty(0, "hold 1 when 1=1);", 1, 15);
        faulty(0, "hold 1 when 1=1 or;", 1, 18);
        faulty(0, "hold 1 when 1=1 and and;", 1, 20);
        faulty(0, "hold 1 when (amount)=1;", 1, 19);
        faulty(0, "hold amount/rail;", 1, 12);
        faulty(0, "hold 1 when 1=1 when 1=1;", 1, 16);
        faulty(4, "cry;", 1, 3);
        faulty(4, "cry 1;", 1, 4);
        faulty(4, "hold 1;", 1, 0);
        faulty(4, "cry when amount=1;", 1, 9);
        faulty(4, "cry when 1=1;limit 1;", 1, 13);
        faulty(0, "hold 1/0;", 2, 7);
        faulty(0, "hold 1/00000;", 2, 7);
        faulty(0, "hold 1/000000;", 1, 7);
        faulty(0, "hold 1/0", 2, 7);
        faulty(0, "hold 1 + 6 / 0 * 1;", 2, 13);
        faulty(4, "cry when turn/0=1;", 2, 14);
        faulty(0, "x/0;", 1, 0);
        String twelve = "fee 1;fee 2;fee 3;fee 4;fee 5;fee 6;fee 7;fee 8;fee 9;fee 1;fee 2;fee 3;";
        faulty(0, twelve + " fee 4;", 3, 73);
        faulty(0, twelve + " fee", 3, 73);
        faulty(0, twelve + " cry", 1, 73);
        faulty(0, twelve + " 7", 1, 73);
        faulty(4, "cry when (((((((((1=1)))))))));", 3, 17);
        faulty(4, "cry when ((((not(((not 1=1)))))));", 3, 19);
        faulty(4, "cry when ((((((((1=1 (", 1, 21);
        faulty(4, "cry when ((((((((not", 3, 17);
        faulty(4, "cry when (((((((1=1))))))) or not not not not not not not not not 1=1;", 3, 62);
        NowhereMoney x = new NowhereMoney();
        text(x, 0, "hold 1/0;");
        for (int bad : WRONG) {
            due("fault(" + bad + ")", x.fault(bad), -1);
        }
        due("fault(2)", x.fault(2), -1);
        due("fault(0), still", x.fault(0), 2);
        stands(x, 0, "hold 1;", 1);
    }

    private static void p9Cash() {
        NowhereMoney x = new NowhereMoney();
        yes("cash(5, 3, 999999)", x.cash(5, 3, 999999));
        no("cash(5, 3, 1000000)", x.cash(5, 3, 1000000));
        yes("cash(5, 3, -999999)", x.cash(5, 3, -999999));
        no("cash(5, 3, -1)", x.cash(5, 3, -1));
        no("cash(0, 0, 0)", x.cash(0, 0, 0));
        for (int bad : WRONG) {
            no("cash(" + bad + ", 0, 1)", x.cash(bad, 0, 1));
            no("cash(0, " + bad + ", 1)", x.cash(0, bad, 1));
        }
        no("cash(6, 0, 1)", x.cash(6, 0, 1));
        no("cash(0, 4, 1)", x.cash(0, 4, 1));
        x.cash(0, 0, 999999);
        x.cash(0, 0, 999999);
        no("cash(0, 0, -1000000)", x.cash(0, 0, -1000000));
        no("cash(0, 0, least)", x.cash(0, 0, Integer.MIN_VALUE));
        due("sums(2)", x.sums(2), 1999998);
        // what is held can't be drawn; a limit lets below nothing
        text(x, 1, "hold 2;limit 30 when amount<131 and rail=0 and far=0 and count=1 and book=200;");
        x.cash(2, 1, 100);
        x.pay(1, 0, 2, 1, 100);
        no("cash(2, 1, -132)", x.cash(2, 1, -132));
        no("cash(2, 1, -131)", x.cash(2, 1, -131));
        yes("cash(2, 1, -130)", x.cash(2, 1, -130));
        due("book(2, 1, 0)", x.book(2, 1, 0), 70);
        due("book(2, 1, 1)", x.book(2, 1, 1), -30);
        no("cash(2, 1, -1): the book is another", x.cash(2, 1, -1));
        days(x, 6);
        no("cash(0, 0, 1) on a Sunday", x.cash(0, 0, 1));
        x.day();
        yes("cash(0, 0, 1) on a Monday", x.cash(0, 0, 1));
        text(x, 3, "limit 9 when weekday=0 and house=4;");
        yes("cash(4, 3, -9) on a Monday", x.cash(4, 3, -9));
        x.day();
        no("cash(4, 3, -9) on a Tuesday", x.cash(4, 3, -9));
        NowhereMoney y = new NowhereMoney();
        text(y, 0, "limit 500;");
        yes("cash(0, 0, -500)", y.cash(0, 0, -500));
        no("cash(0, 0, -1)", y.cash(0, 0, -1));
    }

    private static void p10Pay() {
        NowhereMoney x = new NowhereMoney();
        due("pay(0, 0, 1, 1, 1)", x.pay(0, 0, 1, 1, 1), 0);
        due("pay(5, 3, 5, 3, 99999): for itself", x.pay(5, 3, 5, 3, 99999), 1);
        due("pay of 0", x.pay(0, 0, 1, 1, 0), -1);
        due("pay of 100000", x.pay(0, 0, 1, 1, 100000), -1);
        due("pay(6, ..)", x.pay(6, 0, 1, 1, 1), -1);
        due("pay(0, 4, ..)", x.pay(0, 4, 1, 1, 1), -1);
        due("pay(0, 0, 6, ..)", x.pay(0, 0, 6, 1, 1), -1);
        due("pay(0, 0, 1, 4, ..)", x.pay(0, 0, 1, 4, 1), -1);
        for (int bad : WRONG) {
            due("pay(" + bad + ", 0, 1, 1, 1)", x.pay(bad, 0, 1, 1, 1), -1);
            due("pay(0, " + bad + ", 1, 1, 1)", x.pay(0, bad, 1, 1, 1), -1);
            due("pay(0, 0, " + bad + ", 1, 1)", x.pay(0, 0, bad, 1, 1), -1);
            due("pay(0, 0, 1, " + bad + ", 1)", x.pay(0, 0, 1, bad, 1), -1);
        }
        due("book(1, 1, 0)", x.book(1, 1, 0), 1);
        due("book(5, 3, 0): more at once", x.book(5, 3, 0), 99999);
        for (int k = 2; k < 150; k++) {
            due("pay", x.pay(0, 0, 1, 1, 1), k);
        }
        due("the 151st", x.pay(0, 0, 1, 1, 1), -1);
        due("look(1)", x.look(1), 150);
        NowhereMoney y = new NowhereMoney();
        days(y, 6);
        due("pay on a Sunday", y.pay(0, 0, 1, 1, 1), -1);
        // the one that is paid in is not counted, and the book is that ahead of it
        NowhereMoney z = new NowhereMoney();
        text(z, 0, "hold count+1 when book=0;hold 9 when book=70 and count=1;");
        z.pay(0, 1, 1, 0, 70);
        z.pay(0, 1, 1, 0, 70);
        due("cheque(0, 8)", z.cheque(0, 8), 1);
        due("cheque(1, 8)", z.cheque(1, 8), 9);
    }

    private static void p11Day() {
        NowhereMoney x = apart();
        text(x, 0, "fee 8 when amount=300 and rail=2 and far=1 and house=0 and book=50 and weekday=2;");
        x.cash(0, 0, 250);
        x.pay(0, 0, 1, 1, 200);
        x.pay(0, 0, 1, 1, 300);
        x.pay(0, 0, 1, 3, 999);
        due("day(): 2 is returned", x.day(), 1);
        due("cheque(2, 9)", x.cheque(2, 9), 1);
        due("cheque(2, 6): no rail, but not on the same day", x.cheque(2, 6), 2);
        due("day(): 1 is returned", x.day(), 1);
        due("cheque(0, 6)", x.cheque(0, 6), 1);
        due("cheque(1, 6)", x.cheque(1, 6), 2);
        due("cheque(2, 6)", x.cheque(2, 6), 3);
        due("book(1, 3, 0)", x.book(1, 3, 0), 0);
        due("book(0, 0, 0): less 200 and the fee", x.book(0, 0, 0), 42);
        due("day(): what comes back is not counted", x.day(), 0);
        due("cheque(1, 7)", x.cheque(1, 7), 1);
        due("day()", x.day(), 0);
        due("cheque(1, 6)", x.cheque(1, 6), 3);
        due("book(1, 1, 0)", x.book(1, 1, 0), 200);
        days(x, 85);
        due("look(0)", x.look(0), 89);
        due("day() on the last one", x.day(), -1);
        due("look(0)", x.look(0), 89);
    }

    private static void p11Order() {
        // come back first, so that what is drawn on it is returned, bank by bank, by number
        NowhereMoney x = new NowhereMoney();
        x.pay(0, 3, 1, 0, 100);
        x.day();
        due("cheque(0, 6)", x.cheque(0, 6), 2);
        x.pay(1, 0, 2, 1, 100);
        due("day(): nothing is left for 1", x.day(), 1);
        due("cheque(1, 6)", x.cheque(1, 6), 2);
        due("book(1, 0, 0)", x.book(1, 0, 0), 0);
        // by number, one behind another: the first two are paid, the third is not
        NowhereMoney y = new NowhereMoney();
        y.cash(0, 0, 100);
        y.pay(0, 0, 1, 1, 60);
        y.pay(0, 0, 1, 1, 40);
        y.pay(0, 0, 1, 1, 1);
        due("day()", y.day(), 1);
        due("cheque(2, 6)", y.cheque(2, 6), 2);
        // a limit reaches as far as it says, and not one farther
        NowhereMoney z = new NowhereMoney();
        text(z, 0, "limit 50;");
        z.pay(0, 0, 1, 1, 50);
        z.pay(0, 0, 1, 1, 1);
        due("day()", z.day(), 1);
        due("book(0, 0, 0)", z.book(0, 0, 0), -50);
        // trains run on Sundays and closed days, but not in snow; nothing is asked for on such days
        NowhereMoney w = apart();
        w.told(1, 1, true);
        w.told(0, 3, true);
        w.pay(0, 0, 1, 1, 10);
        w.day();
        due("cheque(0, 7) in snow", w.cheque(0, 7), 2);
        days(w, 2);
        due("cheque(0, 7) on a closed day", w.cheque(0, 7), 0);
        due("cheque(0, 6) on a closed day", w.cheque(0, 6), 0);
        w.rail(0, 1, 3);
        due("day()", w.day(), 1);
        due("cheque(0, 7): rail as it is now", w.cheque(0, 7), 3);
        // fees are cut to 9999, and what is held can't pay a cheque
        NowhereMoney v = new NowhereMoney();
        text(v, 0, "hold 2;fee 10000;");
        v.cash(0, 1, 500);
        v.pay(1, 1, 0, 0, 500);
        v.pay(0, 0, 2, 2, 500);
        due("day()", v.day(), 2);
        due("book(0, 0, 0)", v.book(0, 0, 0), 500 - 9999);
    }

    private static void p12Book() {
        NowhereMoney x = new NowhereMoney();
        text(x, 2, "hold 3;");
        x.cash(4, 2, 70);
        x.cash(1, 0, 500);
        x.pay(1, 0, 4, 2, 200);
        int[] first = {270, 70, 200, 1};
        for (int what = 0; what < 4; what++) {
            due("book(4, 2, " + what + ")", x.book(4, 2, what), first[what]);
        }
        days(x, 2);
        due("book(4, 2, 2): held though paid", x.book(4, 2, 2), 200);
        x.day();
        due("book(4, 2, 2): three days are over", x.book(4, 2, 2), 0);
        due("book(4, 2, 1)", x.book(4, 2, 1), 270);
        days(x, 3);
        due("book(4, 2, 3) on day 6", x.book(4, 2, 3), 1);
        x.day();
        due("book(4, 2, 3) on day 7", x.book(4, 2, 3), 0);
        due("book(4, 2, 4)", x.book(4, 2, 4), NO);
        due("book(6, 2, 0)", x.book(6, 2, 0), NO);
        due("book(4, 4, 0)", x.book(4, 4, 0), NO);
        for (int bad : WRONG) {
            due("book(" + bad + ", 0, 0)", x.book(bad, 0, 0), NO);
            due("book(0, " + bad + ", 0)", x.book(0, bad, 0), NO);
            due("book(0, 0, " + bad + ")", x.book(0, 0, bad), NO);
        }
        // one that has come back is no longer held, but counted
        NowhereMoney y = new NowhereMoney();
        text(y, 2, "hold 9;");
        y.pay(1, 0, 4, 2, 200);
        days(y, 1);
        due("book(4, 2, 2) going back", y.book(4, 2, 2), 200);
        days(y, 1);
        due("book(4, 2, 2) come back", y.book(4, 2, 2), 0);
        due("book(4, 2, 1) come back", y.book(4, 2, 1), 0);
        due("book(4, 2, 3) come back", y.book(4, 2, 3), 1);
    }

    private static void p13Cheque() {
        NowhereMoney x = apart();
        text(x, 1, "hold 4;");
        x.day();
        x.cash(2, 0, 77);
        x.pay(2, 0, 3, 1, 77);
        x.pay(2, 0, 3, 1, 78);
        int[] want = {2, 0, 3, 1, 77, 1, 0, 2, 4, -1};
        for (int what = 0; what < 10; what++) {
            due("cheque(0, " + what + ")", x.cheque(0, what), want[what]);
        }
        days(x, 2);
        due("cheque(0, 6)", x.cheque(0, 6), 1);
        due("cheque(0, 7)", x.cheque(0, 7), 0);
        due("cheque(0, 9)", x.cheque(0, 9), 3);
        due("cheque(1, 6)", x.cheque(1, 6), 2);
        due("cheque(1, 7)", x.cheque(1, 7), 2);
        due("cheque(1, 9)", x.cheque(1, 9), 3);
        days(x, 2);
        due("cheque(1, 6)", x.cheque(1, 6), 3);
        due("cheque(1, 9): when it was returned", x.cheque(1, 9), 3);
        due("cheque(2, 0)", x.cheque(2, 0), -2);
        due("cheque(0, 10)", x.cheque(0, 10), -2);
        for (int bad : WRONG) {
            due("cheque(" + bad + ", 0)", x.cheque(bad, 0), -2);
            due("cheque(0, " + bad + ")", x.cheque(0, bad), -2);
        }
    }

    private static void p14Really() {
        NowhereMoney x = apart();
        x.cash(0, 3, 40);
        x.pay(0, 0, 1, 1, 100);
        x.pay(1, 1, 0, 3, 30);
        int[] zero = {70, -30, 100};
        int[] one = {100, 70, 30};
        for (int what = 0; what < 3; what++) {
            due("really(0, " + what + ")", x.really(0, what), zero[what]);
            due("really(1, " + what + ")", x.really(1, what), one[what]);
        }
        days(x, 2);
        // 0 goes back to 1, who paid it in; what 1 drew is paid
        due("really(0, 1)", x.really(0, 1), 70);
        due("really(1, 0)", x.really(1, 0), 70);
        due("really(1, 1)", x.really(1, 1), -30);
        due("really(1, 2)", x.really(1, 2), 100);
        due("really(0, 3)", x.really(0, 3), NO);
        due("really(6, 0)", x.really(6, 0), NO);
        for (int bad : WRONG) {
            due("really(" + bad + ", 0)", x.really(bad, 0), NO);
            due("really(0, " + bad + ")", x.really(0, bad), NO);
        }
    }

    private static void p15Kept() {
        NowhereMoney x = apart();
        x.cash(0, 0, 50);
        x.pay(0, 0, 0, 2, 30);
        due("kept(0, 0, 0)", x.kept(0, 0, 0), NO);
        due("kept(1, 0, 0)", x.kept(1, 0, 0), NO);
        x.day();
        x.cash(0, 0, 5);
        int[] want = {80, 50, 50, 0, 30, 0};
        for (int what = 0; what < 6; what++) {
            due("kept(1, 0, " + what + "): as of its beginning", x.kept(1, 0, what), want[what]);
        }
        x.day();
        due("kept(2, 0, 2): behind the morning", x.kept(2, 0, 2), 25);
        due("kept(2, 0, 1)", x.kept(2, 0, 1), 55);
        due("kept(1, 0, 0), still", x.kept(1, 0, 0), 80);
        due("kept(2, 1, 0)", x.kept(2, 1, 0), 0);
        days(x, 4);
        due("kept(6, 0, 0) of a Sunday", x.kept(6, 0, 0), 55);
        due("kept(7, 0, 0)", x.kept(7, 0, 0), NO);
        due("kept(1, 6, 0)", x.kept(1, 6, 0), NO);
        due("kept(1, 0, 6)", x.kept(1, 0, 6), NO);
        for (int bad : WRONG) {
            due("kept(" + bad + ", 0, 0)", x.kept(bad, 0, 0), NO);
            due("kept(1, " + bad + ", 0)", x.kept(1, bad, 0), NO);
            due("kept(1, 0, " + bad + ")", x.kept(1, 0, bad), NO);
        }
    }

    private static void p16Sums() {
        NowhereMoney x = apart();
        text(x, 0, "fee 7;");
        x.cash(0, 0, 500);
        x.cash(0, 0, -20);
        x.pay(0, 0, 1, 1, 400);
        x.pay(0, 0, 1, 1, 300);
        x.pay(0, 0, 1, 3, 50);
        int[][] want = {{1230, 750, 480, 0, 3}, {1180, 700, 480, 0, 2}, {773, 300, 480, 7, 1}};
        for (int day = 0; day < 3; day++) {
            for (int what = 0; what < 5; what++) {
                due("sums(" + what + ") on day " + day, x.sums(what), want[day][what]);
            }
            x.day();
        }
        x.day();
        due("sums(0): come back", x.sums(0), 473);
        due("sums(4): come back", x.sums(4), 0);
        due("sums(5)", x.sums(5), -1);
        for (int bad : WRONG) {
            due("sums(" + bad + ")", x.sums(bad), -1);
        }
    }

    private static void p17Flight() {
        NowhereMoney x = apart();
        due("flight(0, 3, 0)", x.flight(0, 3, 0), 1);
        due("flight(0, 0, 5): behind the Sunday", x.flight(0, 0, 5), 2);
        due("flight(0, 1, 4): it comes on a Sunday", x.flight(0, 1, 4), 3);
        due("flight(0, 1, 5): it rides on Sunday", x.flight(0, 1, 5), 2);
        due("flight(1, 2, 89): 90 is a Sunday", x.flight(1, 2, 89), 2);
        due("flight(0, 3, 89)", x.flight(0, 3, 89), 2);
        due("flight(0, 3, 6)", x.flight(0, 3, 6), -1);
        due("flight(0, 3, 90)", x.flight(0, 3, 90), -1);
        due("flight(4, 3, 0)", x.flight(4, 3, 0), -1);
        due("flight(0, 4, 0)", x.flight(0, 4, 0), -1);
        for (int bad : WRONG) {
            due("flight(" + bad + ", 0, 0)", x.flight(bad, 0, 0), -1);
            due("flight(0, " + bad + ", 0)", x.flight(0, bad, 0), -1);
            due("flight(0, 0, " + bad + ")", x.flight(0, 0, bad), -1);
        }
        x.rail(0, 1, 5);
        for (int day = 1; day < 90; day++) {
            x.told(1, day, true);
        }
        due("flight(0, 1, 0): five trains from 90 on", x.flight(0, 1, 0), 94);
        for (int day = 1; day < 90; day++) {
            x.told(0, day, true);
        }
        due("flight(0, 0, 0): all closed", x.flight(0, 0, 0), 91);
    }

    private static void p18Ring() {
        NowhereMoney x = new NowhereMoney();
        due("ring(2, 100, 0, 0)", x.ring(2, 100, 0, 0), 200);
        due("ring(2, 100, 0, 1): the first of equals", x.ring(2, 100, 0, 1), 1);
        x.town(3, 1);
        int[] most = {400, 500, 600};
        int[] which = {3, 13, 123};
        for (int k = 2; k <= 4; k++) {
            due("ring(" + k + ", 100, 0, 0)", x.ring(k, 100, 0, 0), most[k - 2]);
            due("ring(" + k + ", 100, 0, 1)", x.ring(k, 100, 0, 1), which[k - 2]);
        }
        text(x, 3, "hold 1;");
        due("ring(2) with a hold at 3", x.ring(2, 100, 0, 0), 300);
        text(x, 3, "hold 9 when amount=100 and rail=2 and far=1 and house=0 and weekday=0;");
        due("ring(2) with a hold at 3", x.ring(2, 100, 0, 0), 200);
        due("ring(2), whose first one stands at 01", x.ring(2, 100, 0, 1), 1);
        due("ring(2) of another amount", x.ring(2, 99, 0, 0), 396);
        due("ring(2) of another weekday", x.ring(2, 100, 1, 0), 400);
        text(x, 3, "hold book/100+count;");
        x.cash(0, 3, 100);
        due("ring(2): book as now", x.ring(2, 1000, 0, 0), 3000);
        x.pay(1, 0, 0, 3, 1);
        due("ring(2): count as now", x.ring(2, 1000, 0, 0), 2000);
        // where one order holds up more than its reverse: 0 holds nothing, 1 what comes from afar
        NowhereMoney y = apart();
        y.rail(0, 1, 5);
        y.rail(1, 2, 4);
        text(y, 1, "hold 20 when rail=5;");
        text(y, 0, "hold 20 when rail=2;");
        due("ring(3, 1, 0, 0)", y.ring(3, 1, 0, 0), 11);
        due("ring(3, 1, 0, 1): on 0 at 2, on 2 at 1, on 1 at 0", y.ring(3, 1, 0, 1), 21);
        due("ring(1, ..)", x.ring(1, 100, 0, 0), -1);
        due("ring(5, ..)", x.ring(5, 100, 0, 0), -1);
        due("ring of 0", x.ring(2, 0, 0, 0), -1);
        due("ring of 10000", x.ring(2, 10000, 0, 0), -1);
        due("ring of 9999", x.ring(2, 9999, 0, 1), 1);
        due("ring on a Sunday", x.ring(2, 100, 6, 0), -1);
        due("ring on day 90", x.ring(2, 100, 90, 0), -1);
        due("ring, what 2", x.ring(2, 100, 0, 2), -1);
        for (int bad : WRONG) {
            due("ring(" + bad + ", 1, 0, 0)", x.ring(bad, 1, 0, 0), -1);
            due("ring(2, 1, " + bad + ", 0)", x.ring(2, 1, bad, 0), -1);
            due("ring(2, 1, 0, " + bad + ")", x.ring(2, 1, 0, bad), -1);
        }
        due("ring(2, -1, 0, 0)", x.ring(2, -1, 0, 0), -1);
    }

    private static void p19LetIn() {
        NowhereMoney x = new NowhereMoney();
        x.town(3, 1);
        text(x, 3, "hold 20;");
        text(x, 0, "hold 20;");
        due("letIn(2, 100, 0, 0): no law is asked", x.letIn(2, 100, 0, 0), 400);
        due("letIn(2, 100, 0, 1)", x.letIn(2, 100, 0, 1), 200);
        due("letIn(4, 100, 0, 1)", x.letIn(4, 100, 0, 1), 200);
        due("letIn(2, 100, 0, 2)", x.letIn(2, 100, 0, 2), 0);
        due("letIn(3, 9999, 0, 20)", x.letIn(3, 9999, 0, 20), 0);
        due("letIn(3, 10000, 0, 0)", x.letIn(3, 10000, 0, 0), -1);
        due("letIn(3, 0, 0, 0)", x.letIn(3, 0, 0, 0), -1);
        due("letIn(2, 100, 0, 21)", x.letIn(2, 100, 0, 21), -1);
        due("letIn(1, 100, 0, 0)", x.letIn(1, 100, 0, 0), -1);
        due("letIn(5, 100, 0, 0)", x.letIn(5, 100, 0, 0), -1);
        due("letIn(2, 100, 6, 0)", x.letIn(2, 100, 6, 0), -1);
        for (int bad : WRONG) {
            due("letIn(" + bad + ", 1, 0, 0)", x.letIn(bad, 1, 0, 0), -1);
            due("letIn(2, 1, " + bad + ", 0)", x.letIn(2, 1, bad, 0), -1);
            due("letIn(2, 1, 0, " + bad + ")", x.letIn(2, 1, 0, bad), -1);
        }
    }

    private static void p20LeastHold() {
        NowhereMoney x = new NowhereMoney();
        for (int k = 2; k <= 4; k++) {
            due("leastHold(k, 0, 0)", x.leastHold(k, 0, 0), 1);
            due("leastHold(k, 0, 1)", x.leastHold(k, 0, 1), 1);
            due("leastHold(k, 0, 2): none such", x.leastHold(k, 0, 2), 0);
        }
        x.town(3, 1);
        x.rail(0, 1, 4);
        due("leastHold(2, 0, 0)", x.leastHold(2, 0, 0), 4);
        due("leastHold(2, 0, 2)", x.leastHold(2, 0, 2), 4);
        due("leastHold(2, 5, 1)", x.leastHold(2, 5, 1), 2);
        due("leastHold(4, 5, 2)", x.leastHold(4, 5, 2), 4);
        due("letIn of it", x.letIn(2, 1, 0, 4), 0);
        for (int day = 1; day < 30; day++) {
            x.told(1, day, true);
        }
        due("leastHold(2, 0, 0) in snow", x.leastHold(2, 0, 0), 33);
        due("leastHold(1, 0, 0)", x.leastHold(1, 0, 0), -1);
        due("leastHold(5, 0, 0)", x.leastHold(5, 0, 0), -1);
        due("leastHold(2, 6, 0)", x.leastHold(2, 6, 0), -1);
        due("leastHold(2, 0, 3)", x.leastHold(2, 0, 3), -1);
        for (int bad : WRONG) {
            due("leastHold(" + bad + ", 0, 0)", x.leastHold(bad, 0, 0), -1);
            due("leastHold(2, " + bad + ", 0)", x.leastHold(2, bad, 0), -1);
            due("leastHold(2, 0, " + bad + ")", x.leastHold(2, 0, bad), -1);
        }
    }

    private static void p21Chain() {
        NowhereMoney x = apart();
        x.pay(0, 1, 0, 0, 10);
        x.pay(0, 1, 0, 0, 20);
        x.day();
        x.pay(0, 0, 2, 2, 5);
        x.pay(2, 2, 3, 3, 5);
        x.pay(3, 0, 3, 3, 5);
        x.pay(2, 1, 3, 3, 5);
        due("chain(2, 0): the latest one", x.chain(2, 0), 1);
        due("chain(3, 0)", x.chain(3, 0), 2);
        int[] want = {2, 3, 1, 1};
        for (int what = 0; what < 4; what++) {
            due("chain(3, " + what + ")", x.chain(3, what), want[what]);
        }
        int[] alone = {-1, 1, 4, 0};
        for (int what = 0; what < 4; what++) {
            due("chain(4, " + what + ")", x.chain(4, what), alone[what]);
            due("chain(5, " + what + ")", x.chain(5, what), what == 2 ? 5 : alone[what]);
        }
        days(x, 1);
        due("cheque(1, 6): going back", x.cheque(1, 6), 2);
        due("chain(2, 0): it has not come back", x.chain(2, 0), 1);
        days(x, 2);
        due("chain(2, 0): come back", x.chain(2, 0), -1);
        due("chain(6, 0)", x.chain(6, 0), -2);
        due("chain(0, 4)", x.chain(0, 4), -2);
        for (int bad : WRONG) {
            due("chain(" + bad + ", 0)", x.chain(bad, 0), -2);
            due("chain(0, " + bad + ")", x.chain(0, bad), -2);
        }
        // one that it draws on where it pays in rests on none of a higher number, nor on itself
        NowhereMoney y = new NowhereMoney();
        y.pay(0, 0, 0, 0, 10);
        y.pay(0, 0, 0, 0, 10);
        due("chain(0, 0)", y.chain(0, 0), -1);
        due("chain(1, 0)", y.chain(1, 0), 0);
    }

    private static void p22Entry() {
        NowhereMoney x = apart();
        text(x, 2, "fee 3;");
        x.cash(4, 0, 90);
        x.cash(4, 0, -10);
        x.pay(4, 0, 5, 1, 80);
        x.pay(4, 2, 5, 1, 60);
        x.pay(4, 1, 5, 1, 7);
        days(x, 4);
        int[][] want = {
            {0, 4, 0, 0, -1, 90, 90}, {0, 4, 0, 0, -1, -10, 80},
            {0, 5, 1, 1, 0, 80, 80}, {0, 5, 1, 1, 1, 60, 140}, {0, 5, 1, 1, 2, 7, 147},
            {2, 5, 1, 4, 2, -7, 140}, {2, 4, 0, 2, 0, -80, 0}, {2, 4, 2, 3, 1, -3, -3},
            {4, 5, 1, 4, 1, -60, 80}};
        for (int i = 0; i < want.length; i++) {
            for (int what = 0; what < 7; what++) {
                due("entry(" + i + ", " + what + ")", x.entry(i, what), want[i][what]);
            }
        }
        due("look(6): a fee of 0 is none", x.look(6), want.length);
        due("entry(9, 0)", x.entry(9, 0), NO);
        due("entry(0, 7)", x.entry(0, 7), NO);
        for (int bad : WRONG) {
            due("entry(" + bad + ", 0)", x.entry(bad, 0), NO);
            due("entry(0, " + bad + ")", x.entry(0, bad), NO);
        }
        x.cash(4, 0, -1);
        due("look(6): no cash was drawn", x.look(6), want.length);
    }

    private static void p23Growth() {
        NowhereMoney x = new NowhereMoney();
        due("growth(1000, 100, 0)", x.growth(1000, 100, 0), 1000);
        due("growth(1000, 100, 2)", x.growth(1000, 100, 2), 1210);
        due("growth(999, 1, 60): less than one a day", x.growth(999, 1, 60), 999);
        due("growth(1000, 1, 2)", x.growth(1000, 1, 2), 1002);
        due("growth(3, 500, 2)", x.growth(3, 500, 2), 6);
        due("growth(999999999, 500, 60)", x.growth(999999999, 500, 60), 999999999);
        due("growth(666666666, 500, 1)", x.growth(666666666, 500, 1), 999999999);
        due("growth(666666664, 500, 1)", x.growth(666666664, 500, 1), 999999996);
        due("growth(0, 500, 60)", x.growth(0, 500, 60), 0);
        due("growth(7000, 0, 60)", x.growth(7000, 0, 60), 7000);
        due("growth(-1, 1, 1)", x.growth(-1, 1, 1), -1);
        due("growth(1000000000, 1, 1)", x.growth(1000000000, 1, 1), -1);
        due("growth(1, 501, 1)", x.growth(1, 501, 1), -1);
        due("growth(1, -1, 1)", x.growth(1, -1, 1), -1);
        due("growth(1, 1, 61)", x.growth(1, 1, 61), -1);
        due("growth(1, 1, -1)", x.growth(1, 1, -1), -1);
        due("growth(least, 1, 1)", x.growth(Integer.MIN_VALUE, 1, 1), -1);
    }

    private static void signs(NowhereMoney x, int house, int banks, int... want) {
        for (int what = 0; what < want.length; what++) {
            due("sign(" + house + ", " + banks + ", " + what + ")", x.sign(house, banks, what), want[what]);
        }
    }

    private static void p24Sign() {
        NowhereMoney x = apart();
        text(x, 4, "cry when turn=1309 and count=3 and round=1 and match=1 and far=2 and book=1409 and low=1409;"
            + "cry when count=1 and low<0;");
        x.cash(0, 1, 100);
        x.pay(1, 0, 0, 1, 1000);
        x.pay(1, 1, 0, 1, 109);
        x.pay(1, 2, 0, 2, 100);
        x.pay(1, 2, 0, 1, 200);
        x.pay(0, 1, 2, 1, 99);
        signs(x, 0, 2, 1309, 3, 2, 0, 1409, 1409, 2, 0);
        signs(x, 0, 4, 100, 1, 1, 0, 100, 100, 0, 0);
        signs(x, 0, 6, 1409, 4, 3, 0, 1509, 1509, 2, 0);
        signs(x, 0, 9, 0, 0, 0, 0, 0, 0, 0, 0);
        x.day();
        // what 0 drew on 1 (99) is paid: near 109 by ten, whose tenth is ten
        signs(x, 0, 2, 1309, 3, 2, 1, 1310, 1310, 2, 0);
        x.cash(0, 1, -1000);
        signs(x, 0, 2, 1309, 3, 2, 1, 310, 1310, 2, 0);
        x.day();
        // 109 has come back
        due("sign(0, 2, 5): the least of those kept", x.sign(0, 2, 5), 201);
        x.cash(0, 1, 5000);
        x.day();
        due("sign(0, 2, 5), still", x.sign(0, 2, 5), 201);
        due("sign(0, 2, 4)", x.sign(0, 2, 4), 5201);
        // the last seven days: the first ones pass on day 7
        days(x, 3);
        due("sign(0, 2, 1) on day 6", x.sign(0, 2, 1), 3);
        due("sign(0, 2, 3) on day 6", x.sign(0, 2, 3), 1);
        x.day();
        signs(x, 0, 2, 0, 0, 0, 0, 4001, 201, 0, 0);
        x.day();
        due("sign(0, 2, 5): day 2 is of the last seven still", x.sign(0, 2, 5), 201);
        x.day();
        due("sign(0, 2, 5): day 2 is over", x.sign(0, 2, 5), 4001);
        due("sign(0, 0, 0)", x.sign(0, 0, 0), NO);
        due("sign(0, 16, 0)", x.sign(0, 16, 0), NO);
        due("sign(6, 1, 0)", x.sign(6, 1, 0), NO);
        due("sign(0, 1, 8)", x.sign(0, 1, 8), NO);
        for (int bad : WRONG) {
            due("sign(" + bad + ", 1, 0)", x.sign(bad, 1, 0), NO);
            due("sign(0, " + bad + ", 0)", x.sign(0, bad, 0), NO);
            due("sign(0, 1, " + bad + ")", x.sign(0, 1, bad), NO);
        }
    }

    private static void p24Match() {
        // 100 is drawn and paid: 91 .. 111 match, as far as a tenth of them reaches
        NowhereMoney x = new NowhereMoney();
        x.cash(0, 0, 100);
        x.pay(0, 0, 1, 3, 100);
        x.day();
        int[] amounts = {90, 91, 92, 110, 111, 112};
        int[] want = {0, 1, 2, 3, 4, 4};
        for (int i = 0; i < amounts.length; i++) {
            x.pay(2, 1, 0, 0, amounts[i]);
            due("sign(0, 1, 3) with " + amounts[i], x.sign(0, 1, 3), want[i]);
        }
        x.pay(2, 1, 0, 3, 100);
        due("sign(0, 8, 3): paid in elsewhere", x.sign(0, 8, 3), 0);
        // each sign as a text tells it
        String[] said = {"turn=606", "count=6", "round=0", "match=4", "book=606", "low=0", "far=0"};
        for (String s : said) {
            text(x, 4, "cry when " + s + ";");
            due(s, x.sign(0, 1, 7), 1);
            text(x, 4, "cry when not " + s + ";cry when 1=2;");
            due("not " + s, x.sign(0, 1, 7), 0);
        }
        text(x, 4, "cry when 1=2;cry when 1=1;");
        due("some line", x.sign(5, 15, 7), 1);
        text(x, 4, "");
        due("no line", x.sign(0, 1, 7), 0);
    }

    private static void p25Kiters() {
        NowhereMoney x = new NowhereMoney();
        yes("kiters(63)", x.kiters(63));
        no("kiters(64)", x.kiters(64));
        no("kiters(-1)", x.kiters(-1));
        due("look(3)", x.look(3), 63);
        yes("kiters(0)", x.kiters(0));
        due("look(3)", x.look(3), 0);
        for (int bad : WRONG) {
            no("kiters(" + bad + ")", x.kiters(bad));
        }
    }

    private static void p26Cries() {
        NowhereMoney x = new NowhereMoney();
        text(x, 4, "cry when count>0;");
        x.pay(5, 0, 0, 1, 10);
        x.pay(5, 0, 1, 1, 10);
        x.pay(5, 0, 2, 1, 10);
        x.pay(5, 0, 3, 2, 10);
        x.kiters(0b110001);
        int[] want = {0b000111, 1, 2, 2, 333};
        for (int what = 0; what < 5; what++) {
            due("cries(2, " + what + ")", x.cries(2, what), want[what]);
        }
        due("cries(6, 0)", x.cries(6, 0), 0b001111);
        due("cries(6, 4)", x.cries(6, 4), 250);
        due("cries(8, 0)", x.cries(8, 0), 0);
        due("cries(8, 3)", x.cries(8, 3), 3);
        due("cries(8, 4): without cries", x.cries(8, 4), -1);
        x.kiters(1);
        due("cries(6, 4): one of four", x.cries(6, 4), 250);
        x.kiters(3);
        due("cries(6, 4): two of four", x.cries(6, 4), 500);
        x.kiters(63);
        due("cries(2, 4)", x.cries(2, 4), 1000);
        x.kiters(0);
        due("cries(2, 4)", x.cries(2, 4), 0);
        due("cries(0, 0)", x.cries(0, 0), -1);
        due("cries(16, 0)", x.cries(16, 0), -1);
        due("cries(1, 5)", x.cries(1, 5), -1);
        for (int bad : WRONG) {
            due("cries(" + bad + ", 0)", x.cries(bad, 0), -1);
            due("cries(1, " + bad + ")", x.cries(1, bad), -1);
        }
    }

    private static void p27Like() {
        NowhereMoney x = new NowhereMoney();
        text(x, 4, "cry when turn>20;");
        int[] turns = {21, 10, 9, 42, 43, 21};
        for (int house = 0; house < 6; house++) {
            x.pay(0, 0, house, 1, turns[house]);
        }
        due("like(0, 2, 0): 10, 42 and 21", x.like(0, 2, 0), 3);
        due("like(0, 2, 1): 42 and 21", x.like(0, 2, 1), 2);
        due("like(5, 2, 0): 21, 10 and 42", x.like(5, 2, 0), 3);
        x.kiters(0b100001);
        due("like(0, 2, 0) with kiters", x.like(0, 2, 0), 2);
        due("like(0, 2, 1) with kiters", x.like(0, 2, 1), 1);
        due("like(0, 1, 0): all of nothing", x.like(0, 1, 0), 4);
        due("like(0, 1, 1)", x.like(0, 1, 1), 0);
        due("like(0, 2, 2)", x.like(0, 2, 2), -1);
        due("like(6, 2, 0)", x.like(6, 2, 0), -1);
        due("like(0, 0, 0)", x.like(0, 0, 0), -1);
        due("like(0, 16, 0)", x.like(0, 16, 0), -1);
        for (int bad : WRONG) {
            due("like(" + bad + ", 1, 0)", x.like(bad, 1, 0), -1);
            due("like(0, " + bad + ", 0)", x.like(0, bad, 0), -1);
            due("like(0, 1, " + bad + ")", x.like(0, 1, bad), -1);
        }
    }

    private static void p28Alone() {
        NowhereMoney x = new NowhereMoney();
        text(x, 4, "cry when count>1;");
        x.pay(5, 0, 4, 3, 10);
        x.pay(5, 0, 4, 2, 10);
        due("sign(4, 12, 7): together", x.sign(4, 12, 7), 1);
        x.day();
        due("alone(4, 3)", x.alone(4, 3), -1);
        x.pay(5, 0, 4, 3, 10);
        due("sign(4, 8, 7)", x.sign(4, 8, 7), 1);
        due("alone(4, 3): not before the morning", x.alone(4, 3), -1);
        x.day();
        due("alone(4, 3)", x.alone(4, 3), 2);
        due("alone(4, 2)", x.alone(4, 2), -1);
        text(x, 4, "cry when 1=1;");
        x.day();
        due("alone(4, 3): the first day stays", x.alone(4, 3), 2);
        due("alone(0, 0)", x.alone(0, 0), 3);
        due("alone(6, 0)", x.alone(6, 0), -1);
        due("alone(0, 4)", x.alone(0, 4), -1);
        for (int bad : WRONG) {
            due("alone(" + bad + ", 0)", x.alone(bad, 0), -1);
            due("alone(0, " + bad + ")", x.alone(0, bad), -1);
        }
        // that day is kept when it is looked for
        NowhereMoney y = new NowhereMoney();
        text(y, 4, "cry when low<50;");
        y.cash(0, 0, 60);
        y.day();
        y.pay(0, 0, 1, 1, 20);
        y.day();
        due("alone(0, 0)", y.alone(0, 0), 2);
    }

    private static void p29Ending() {
        // on one day at bank 0, of 100 there: 60, 30, 70 (and 10 of another house)
        NowhereMoney x = new NowhereMoney();
        text(x, 0, "fee 5;");
        x.cash(1, 0, 100);
        x.pay(1, 0, 2, 1, 60);
        x.pay(1, 0, 2, 1, 30);
        x.pay(1, 0, 2, 1, 70);
        x.pay(0, 0, 2, 1, 10);
        x.image(true);
        int[] returned = {2, 3, 2, 2};
        for (int order = 0; order < 4; order++) {
            due("ending(" + order + ", 0)", x.ending(order, 0), 2);
            due("ending(" + order + ", 1)", x.ending(order, 1), returned[order]);
            due("ending(" + order + ", 2)", x.ending(order, 2), 5);
            due("ending(" + order + ", 10)", x.ending(order, 10), 5);
            due("ending(" + order + ", 11)", x.ending(order, 11), 0);
        }
        due("ending(-1, 0): the first of equals", x.ending(-1, 0), 0);
        due("ending(-1, 99): whatever what", x.ending(-1, 99), 0);
        due("look(0): nothing stays", x.look(0), 0);
        due("cheque(2, 6): nothing stays", x.cheque(2, 6), 0);
        due("look(6): nothing stays", x.look(6), 5);
        due("ending(4, 0)", x.ending(4, 0), -1);
        due("ending(0, 3)", x.ending(0, 3), -1);
        due("ending(0, 9)", x.ending(0, 9), -1);
        due("ending(0, 14)", x.ending(0, 14), -1);
        due("ending(-2, 0)", x.ending(-2, 0), -1);
        for (int bad : WRONG) {
            due("ending(0, " + bad + ")", x.ending(0, bad), -1);
            if (bad != -1) {
                due("ending(" + bad + ", 0)", x.ending(bad, 0), -1);
            }
        }
    }

    private static void p29Orders() {
        // of 100: by number 60 then 40 are paid; greatest first 90; least first 10 and 40; then by house
        NowhereMoney x = new NowhereMoney();
        text(x, 0, "fee amount;");
        x.cash(1, 0, 100);
        x.pay(1, 0, 2, 1, 60);
        x.pay(1, 0, 2, 1, 90);
        x.pay(1, 0, 2, 1, 40);
        x.pay(1, 0, 2, 1, 10);
        // fees (as much as the cheque) fall on the house at once, so the order tells:
        // by number: 60 paid (40 left), 90 returned (-50), 40 returned (-90), 10 returned (-100)
        due("ending(0, 1)", x.ending(0, 1), 3);
        due("ending(0, 2)", x.ending(0, 2), 100);
        // greatest first: 90 paid (10 left), 60 returned (-50), 40 (-90), 10 (-100)
        due("ending(1, 1)", x.ending(1, 1), 3);
        due("ending(1, 2)", x.ending(1, 2), 100);
        // least first: 10, 40 paid (50 left), 60 returned (-10), 90 returned (-100)
        due("ending(2, 1)", x.ending(2, 1), 2);
        due("ending(2, 2)", x.ending(2, 2), 100);
        text(x, 0, "fee 30;");
        // fees of 30: by number 60 paid, 3 returned: -50; least first: 10 and 40 paid, 2 returned: -10
        due("ending(0, 2)", x.ending(0, 2), 50);
        due("ending(1, 2)", x.ending(1, 2), 80);
        due("ending(2, 2)", x.ending(2, 2), 10);
        due("ending(3, 2)", x.ending(3, 2), 50);
        due("ending(-1, 0)", x.ending(-1, 0), 2);
        // a fee for what is below 70 alone: the greatest first costs three, the others two
        text(x, 0, "fee 30 when amount<70;fee 100;");
        due("ending(0, 2): 90 is returned", x.ending(0, 2), 120);
        due("ending(1, 2): 60, 40 and 10 are", x.ending(1, 2), 80);
        due("ending(2, 2): 60 and 90 are", x.ending(2, 2), 80);
        due("ending(3, 2)", x.ending(3, 2), 120);
        due("ending(-1, 0): the first of equals", x.ending(-1, 0), 1);
        text(x, 0, "fee 30 when amount<70;fee 90;");
        due("ending(2, 2)", x.ending(2, 2), 70);
        due("ending(-1, 0): not the first that is less", x.ending(-1, 0), 2);
        text(x, 0, "fee 20 when amount<70;fee 90;");
        due("ending(0, 2)", x.ending(0, 2), 90);
        due("ending(1, 2)", x.ending(1, 2), 50);
        due("ending(2, 2)", x.ending(2, 2), 60);
        due("ending(-1, 0): 2 is less than 0, but not than 1", x.ending(-1, 0), 1);
        // of several that are equal the first by number is asked for first: the second one comes back,
        // to a house that has drawn it already
        NowhereMoney z = new NowhereMoney();
        z.cash(1, 0, 50);
        z.pay(1, 0, 2, 1, 50);
        z.pay(1, 0, 3, 2, 50);
        z.cash(3, 2, -50);
        for (int order = 0; order < 4; order++) {
            due("ending(" + order + ", 2) of equals", z.ending(order, 2), 50);
            due("ending(" + order + ", 12) of equals", z.ending(order, 12), 50);
        }
        // by the house that drew: house 0 pays house 1 and itself is asked first, at any number
        NowhereMoney y = new NowhereMoney();
        text(y, 0, "fee 7 when count=0;");
        y.pay(3, 0, 2, 1, 5);
        y.cash(0, 0, 10);
        y.pay(0, 0, 2, 1, 6);
        y.pay(0, 0, 2, 1, 5);
        y.pay(0, 0, 2, 1, 6);
        due("ending(0, 1)", y.ending(0, 1), 3);
        due("ending(1, 1)", y.ending(1, 1), 3);
        due("ending(2, 1)", y.ending(2, 1), 3);
        due("ending(3, 1)", y.ending(3, 1), 3);
    }

    private static void p29Days() {
        NowhereMoney x = apart();
        due("ending(0, 0) of nothing", x.ending(0, 0), 0);
        x.pay(0, 0, 1, 1, 50);
        // asked for on 2, back on 4
        due("ending(0, 0)", x.ending(0, 0), 4);
        due("ending(0, 1)", x.ending(0, 1), 1);
        for (int day = 1; day <= 60; day++) {
            x.told(1, day, true);
        }
        due("ending(0, 0) in snow", x.ending(0, 0), 40);
        due("ending(0, 1) in snow", x.ending(0, 1), 0);
        due("snowed() in snow", x.snowed(), -1);
        // behind day 89 there are Sundays alone: 90 is one
        NowhereMoney y = new NowhereMoney();
        y.told(0, 88, true);
        days(y, 87);
        y.cash(0, 0, 50);
        y.pay(0, 0, 1, 1, 50);
        y.pay(1, 1, 2, 2, 60);
        due("ending(0, 0)", y.ending(0, 0), 4);
        days(y, 2);
        due("cheque(0, 9)", y.cheque(0, 9), 89);
        y.pay(0, 0, 1, 1, 50);
        due("ending(0, 0) from day 89", y.ending(0, 0), 3);
        due("ending(0, 1) from day 89", y.ending(0, 1), 1);
        due("look(0)", y.look(0), 89);
        due("kept(89, 1, 0)", y.kept(89, 1, 0), 50);
    }

    private static void p30Snowed() {
        // 0 comes back at 1 on day 4, when 1 is asked for: later, if there is snow on it
        NowhereMoney x = new NowhereMoney();
        x.town(1, 1);
        x.town(2, 2);
        x.town(3, 1);
        x.pay(0, 2, 0, 1, 100);
        days(x, 3);
        x.pay(0, 1, 1, 3, 100);
        due("snowed()", x.snowed(), 4);
        due("flight(0, 1, 3): nothing stays", x.flight(0, 1, 3), 2);
        due("ending(0, 2): nothing stays", x.ending(0, 2), 0);
        x.told(1, 4, true);
        due("snowed(): as told, it is without", x.snowed(), -1);
        // day 89 is the last one that is tried
        NowhereMoney y = new NowhereMoney();
        y.town(1, 1);
        y.town(2, 2);
        y.town(3, 1);
        days(y, 84);
        y.day();
        y.pay(0, 2, 0, 1, 100);
        days(y, 3);
        y.pay(0, 1, 1, 3, 100);
        due("look(0)", y.look(0), 88);
        due("snowed() on 88", y.snowed(), 89);
        y.day();
        due("snowed() on 89", y.snowed(), -1);
        // snow on 91 would cost 100, but there is no such day
        NowhereMoney z = new NowhereMoney();
        z.town(1, 1);
        z.town(2, 2);
        z.town(3, 1);
        days(z, 88);
        z.rail(1, 2, 0);
        z.pay(0, 2, 0, 1, 100);
        z.rail(1, 2, 2);
        z.day();
        z.pay(0, 1, 1, 3, 100);
        due("cheque(0, 7)", z.cheque(0, 7), 2);
        due("ending(0, 1)", z.ending(0, 1), 1);
        due("snowed() on 89", z.snowed(), -1);
    }

    private static void p30Far() {
        // 0 goes back by one train, 1 waits for a day of business: both up to NOW and 14, or and 15
        for (int more = 0; more < 2; more++) {
            NowhereMoney x = new NowhereMoney();
            x.town(1, 1);
            x.town(2, 2);
            x.town(3, 1);
            x.rail(1, 2, 0);
            x.pay(0, 2, 0, 1, 100);
            x.rail(1, 2, 1);
            x.day();
            due("cheque(0, 7)", x.cheque(0, 7), 1);
            x.pay(0, 1, 1, 3, 100);
            for (int day = 2; day < 15 + more; day++) {
                x.told(0, day, true);
                x.told(1, day, true);
            }
            due("ending(0, 2)", x.ending(0, 2), 0);
            due("snowed()", x.snowed(), more == 0 ? 15 : -1);
        }
    }

    private static void p31Payment() {
        NowhereMoney x = new NowhereMoney();
        due("payment(0, 7): none any more", x.payment(0, 7), 0);
        due("payment(1, 0)", x.payment(1, 0), 1);
        due("payment(99999, 2)", x.payment(99999, 2), 2);
        due("payment(100000, 2)", x.payment(100000, 2), -1);
        due("payment(-1, 2)", x.payment(-1, 2), -1);
        due("payment(1, 3)", x.payment(1, 3), -1);
        due("payment(1, -1)", x.payment(1, -1), -1);
        for (int n = 3; n <= 6; n++) {
            due("payment(1, 1)", x.payment(1, 1), n);
        }
        due("the seventh", x.payment(1, 1), -1);
        due("look(2)", x.look(2), 6);
        due("payment(0, -9)", x.payment(0, -9), 0);
        due("look(2)", x.look(2), 0);
        for (int bad : WRONG) {
            if (bad != 1000) {
                due("payment(" + bad + ", 0)", x.payment(bad, 0), -1);
            }
            due("payment(1, " + bad + ")", x.payment(1, bad), -1);
        }
    }

    private static void p32PayFloat() {
        NowhereMoney x = apart();
        x.rail(0, 1, 3);
        x.rail(0, 2, 5);
        x.rail(1, 2, 1);
        for (int bank = 0; bank < 4; bank++) {
            x.cash(0, bank, 100);
        }
        due("payFloat(0, 0) of nothing", x.payFloat(0, 0), 0);
        due("payFloat(0, 1) of nothing", x.payFloat(0, 1), 0);
        due("payFloat(0, 10) of nothing", x.payFloat(0, 10), -1);
        x.payment(60, 0);
        x.payment(50, 0);
        x.payment(40, 1);
        // most: 60 and 40 on 2 (5 and 1 days) and 50 on 1 (3): 300 + 150 + 40; or 60 on 2, 50 on 1,
        // 40 on 0 (3): 300 + 150 + 120
        due("payFloat(0, 0)", x.payFloat(0, 0), 570);
        int[] most = {2, 1, 0};
        // least: 60 on 0, 50 on 3, 40 on 1
        due("payFloat(0, 1)", x.payFloat(0, 1), 0);
        int[] least = {0, 3, 1};
        for (int i = 0; i < 3; i++) {
            due("payFloat(0, 1" + i + ")", x.payFloat(0, 10 + i), most[i]);
            due("payFloat(0, 2" + i + ")", x.payFloat(0, 20 + i), least[i]);
        }
        due("payFloat(0, 13)", x.payFloat(0, 13), -1);
        due("payFloat(0, 23)", x.payFloat(0, 23), -1);
        due("payFloat(0, 2)", x.payFloat(0, 2), -1);
        due("payFloat(0, 9)", x.payFloat(0, 9), -1);
        due("payFloat(0, 19)", x.payFloat(0, 19), -1);
        due("payFloat(1, 0): there is no way", x.payFloat(1, 0), -1);
        due("payFloat(1, 20): there is no way", x.payFloat(1, 20), -1);
        due("payFloat(6, 0)", x.payFloat(6, 0), -1);
        for (int bad : WRONG) {
            due("payFloat(" + bad + ", 0)", x.payFloat(bad, 0), -1);
            due("payFloat(0, " + bad + ")", x.payFloat(0, bad), -1);
        }
        x.payment(0, 0);
        x.payment(100, 0);
        due("payFloat(0, 10): all that is usable", x.payFloat(0, 10), 2);
        x.payment(100, 0);
        x.payment(100, 0);
        x.payment(100, 0);
        due("payFloat(0, 0)", x.payFloat(0, 0), 800);
        due("payFloat(0, 10): the first way", x.payFloat(0, 10), 0);
        due("payFloat(0, 13)", x.payFloat(0, 13), 3);
        x.payment(1, 0);
        due("payFloat(0, 0): no way", x.payFloat(0, 0), -1);
        // what is held is not usable
        NowhereMoney y = new NowhereMoney();
        text(y, 0, "hold 1;");
        y.pay(1, 1, 0, 0, 100);
        y.payment(100, 0);
        due("payFloat(0, 0): held", y.payFloat(0, 0), -1);
        y.pay(1, 1, 0, 2, 100);
        due("payFloat(0, 0)", y.payFloat(0, 0), 0);
        due("payFloat(0, 10)", y.payFloat(0, 10), 2);
    }

    private static void p33Room() {
        NowhereMoney x = new NowhereMoney();
        for (int bank = 0; bank < 4; bank++) {
            x.cash(bank, bank, 1000);
        }
        x.pay(0, 0, 1, 1, 300);
        x.pay(1, 1, 2, 2, 200);
        x.pay(2, 2, 0, 0, 150);
        x.pay(3, 3, 3, 3, 70);
        x.pay(5, 0, 1, 1, 900);
        x.day();
        int[] want = {-150, 100, 50, 0, 720, 570};
        for (int what = 0; what < 6; what++) {
            due("room(1, " + what + ")", x.room(1, what), want[what]);
            due("room(0, " + what + ")", x.room(0, what), 0);
            due("room(2, " + what + "): behind now", x.room(2, what), NO);
        }
        due("room(1, 6)", x.room(1, 6), NO);
        for (int bad : WRONG) {
            due("room(" + bad + ", 0)", x.room(bad, 0), NO);
            due("room(1, " + bad + ")", x.room(1, bad), NO);
        }
        x.day();
        due("room(1, 4), still", x.room(1, 4), 720);
        due("room(2, 4): what came back is not paid", x.room(2, 4), 0);
    }

    private static void p34Seen() {
        NowhereMoney x = new NowhereMoney();
        for (int bank = 0; bank < 2; bank++) {
            x.cash(bank, bank, 1000);
        }
        due("seen(1)", x.seen(1), -1);
        x.pay(0, 0, 1, 1, 300);
        x.day();
        due("seen(1): all of it one way", x.seen(1), -1);
        x.pay(0, 0, 1, 1, 200);
        x.pay(1, 1, 0, 0, 100);
        x.day();
        // gross 300, nets 100 off each: round 200, which is 666 and two thirds thousandths
        due("seen(666)", x.seen(666), 2);
        due("seen(667)", x.seen(667), -1);
        x.pay(0, 0, 1, 1, 200);
        x.pay(1, 1, 0, 0, 200);
        x.day();
        due("seen(667)", x.seen(667), 3);
        due("seen(1000)", x.seen(1000), 3);
        due("seen(1): the first day", x.seen(1), 2);
        due("seen(0)", x.seen(0), -1);
        due("seen(1001)", x.seen(1001), -1);
        for (int bad : WRONG) {
            if (bad != 1000) {
                due("seen(" + bad + ")", x.seen(bad), -1);
            }
        }
        // the least gross there is, within one bank
        NowhereMoney z = new NowhereMoney();
        z.cash(0, 0, 1);
        z.pay(0, 0, 0, 0, 1);
        z.day();
        due("seen(1000)", z.seen(1000), 1);
        // sums whose thousandfold is above an int
        NowhereMoney y = new NowhereMoney();
        y.cash(0, 0, 999999);
        y.cash(1, 1, 999999);
        for (int i = 0; i < 40; i++) {
            y.pay(i % 2, i % 2, 1 - i % 2, 1 - i % 2, 99990);
        }
        y.day();
        due("room(1, 4)", y.room(1, 4), 40 * 99990);
        due("seen(1)", y.seen(1), 1);
        due("seen(1000)", y.seen(1000), 1);
    }

    private static void p35Burnt() {
        NowhereMoney x = new NowhereMoney();
        text(x, 0, "fee 5;");
        x.told(0, 3, true);
        x.cash(2, 0, 1000);
        x.cash(2, 0, -100);
        x.cash(4, 3, 500);
        x.pay(2, 0, 4, 3, 300);
        x.pay(2, 0, 4, 3, 999);
        x.pay(4, 3, 2, 0, 70);
        x.pay(4, 0, 2, 0, 20);
        x.pay(2, 0, 2, 0, 10);
        due("burnt(0, 2, 9, 0): cash alone", x.burnt(0, 2, 9, 0), 900);
        x.day();
        // less 300 and 10 paid, less the fee of 999, and the 70 that bank 3 paid
        due("burnt(0, 2, 9, 0)", x.burnt(0, 2, 9, 0), 900 - 300 - 10 - 5 + 70);
        due("burnt(0, 2, 9, 1)", x.burnt(0, 2, 9, 1), 655 + 2 * 9);
        due("burnt(3, 4, 0, 0): paid by bank 0", x.burnt(3, 4, 0, 0), 500 - 70 + 300);
        due("burnt(0, 4, 0, 0)", x.burnt(0, 4, 0, 0), -5);
        x.image(true);
        x.pay(4, 0, 2, 3, 9999);
        x.day();
        due("sums(3)", x.sums(3), 15);
        x.image(false);
        due("sums(3)", x.sums(3), 10);
        days(x, 6);
        // days 1 .. 7, of which 3 is closed and 6 a Sunday
        due("burnt(0, 2, 99999, 1)", x.burnt(0, 2, 99999, 1), 655 + 5 * 99999);
        due("burnt(0, 2, 0, 1)", x.burnt(0, 2, 0, 1), 655);
        due("burnt(0, 2, 100000, 0)", x.burnt(0, 2, 100000, 0), NO);
        due("burnt(0, 2, -1, 0)", x.burnt(0, 2, -1, 0), NO);
        due("burnt(4, 2, 0, 0)", x.burnt(4, 2, 0, 0), NO);
        due("burnt(0, 6, 0, 0)", x.burnt(0, 6, 0, 0), NO);
        due("burnt(0, 2, 0, 2)", x.burnt(0, 2, 0, 2), NO);
        for (int bad : WRONG) {
            due("burnt(" + bad + ", 0, 0, 0)", x.burnt(bad, 0, 0, 0), NO);
            due("burnt(0, " + bad + ", 0, 0)", x.burnt(0, bad, 0, 0), NO);
            due("burnt(0, 0, 0, " + bad + ")", x.burnt(0, 0, 0, bad), NO);
        }
    }

    private static void p36Honest() {
        NowhereMoney x = new NowhereMoney();
        x.pay(0, 0, 1, 1, 99);
        x.pay(0, 0, 1, 1, 199);
        x.pay(0, 0, 2, 1, 1000);
        due("honest(10): each downwards", x.honest(10), 0 + 1 + 10);
        due("honest(20)", x.honest(20), 1 + 3 + 20);
        due("honest(0)", x.honest(0), 0);
        x.kiters(0b000101);
        due("honest(20): 2 is a kiter, 0 pays nothing in", x.honest(20), 4);
        days(x, 3);
        due("cheque(0, 6)", x.cheque(0, 6), 3);
        due("honest(20): come back, too", x.honest(20), 4);
        due("honest(21)", x.honest(21), -1);
        due("honest(-1)", x.honest(-1), -1);
        for (int bad : WRONG) {
            due("honest(" + bad + ")", x.honest(bad), -1);
        }
    }

    private static void p37Image() {
        NowhereMoney x = apart();
        no("image(false): there is none", x.image(false));
        x.image(true);
        x.town(1, 0);
        x.image(false);
        due("flight(0, 1, 0): towns", x.flight(0, 1, 0), 2);
        x.rail(0, 2, 3);
        text(x, 0, "hold 3;fee 2;");
        text(x, 4, "cry when count>0;");
        x.told(1, 9, true);
        x.cash(0, 0, 100);
        x.pay(1, 1, 0, 0, 40);
        x.payment(10, 1);
        x.kiters(5);
        x.day();
        yes("image(true)", x.image(true));
        due("look(5)", x.look(5), 1);
        for (int round = 0; round < 2; round++) {
            text(x, 0, "hold 9;");
            text(x, 4, "");
            x.told(1, 9, false);
            x.told(0, 3, true);
            x.rail(0, 1, 5);
            x.cash(0, 0, 1);
            x.pay(0, 0, 0, 0, 1);
            x.payment(20, 2);
            x.payment(0, 0);
            x.payment(30, 2);
            x.kiters(9);
            days(x, 8);
            text(x, 0, "hold");
            feed(x, "hold 1;");
            yes("image(false)", x.image(false));
            due("fault(0): not of the image", x.fault(0), 1);
            due("text(1): the tape is not of the image", x.text(1), 1);
            due("look(0)", x.look(0), 1);
            due("look(1)", x.look(1), 1);
            due("look(2)", x.look(2), 1);
            due("look(3)", x.look(3), 5);
            due("look(5)", x.look(5), 1);
            due("look(6)", x.look(6), 2);
            due("entry(2, 0)", x.entry(2, 0), NO);
            due("kept(2, 0, 0)", x.kept(2, 0, 0), NO);
            due("kept(1, 0, 0)", x.kept(1, 0, 0), 140);
            due("book(0, 0, 0)", x.book(0, 0, 0), 140);
            due("alone(0, 0)", x.alone(0, 0), 1);
            due("flight(0, 1, 1)", x.flight(0, 1, 1), 2);
            due("flight(0, 1, 8): snow on 9", x.flight(0, 1, 8), 3);
            due("flight(0, 3, 2): 3 is not closed", x.flight(0, 3, 2), 1);
            due("payFloat(0, 20)", x.payFloat(0, 20), 0);
            due("payFloat(0, 0): from town 1", x.payFloat(0, 0), 20);
            due("flight(0, 2, 1): rail", x.flight(0, 2, 1), 3);
            due("burnt(0, 0, 0, 0): cash", x.burnt(0, 0, 0, 0), 100);
            due("sums(3)", x.sums(3), 0);
            due("sign(0, 1, 7)", x.sign(0, 1, 7), 1);
            due("ending(0, 1)", x.ending(0, 1), 1);
            x.pay(2, 0, 3, 0, 7);
            due("cheque(1, 8): the law of the image", x.cheque(1, 8), 3);
            x.image(false);
        }
        x.day();
        yes("image(true), again", x.image(true));
        x.day();
        x.image(false);
        due("look(0): the latest image", x.look(0), 2);
    }

    private static void p38Look() {
        NowhereMoney x = new NowhereMoney();
        x.kiters(33);
        x.payment(5, 1);
        x.cash(0, 0, 5);
        x.pay(0, 0, 1, 1, 5);
        x.pay(0, 0, 1, 1, 5);
        x.image(true);
        x.payment(6, 2);
        x.payment(7, 0);
        days(x, 6);
        int[] want = {6, 2, 3, 33, 0, 1, 5};
        for (int what = 0; what <= 6; what++) {
            due("look(" + what + ")", x.look(what), want[what]);
        }
        due("look(7)", x.look(7), -1);
        for (int bad : WRONG) {
            due("look(" + bad + ")", x.look(bad), -1);
        }
    }

    public static void main(String[] args) {
        Runnable[] tests = {PromisesTest::p1New, PromisesTest::p2Town, PromisesTest::p3Rail,
            PromisesTest::p4Told, PromisesTest::p5Feed, PromisesTest::p6End, PromisesTest::p7Text,
            PromisesTest::p8Fault, PromisesTest::p9Cash, PromisesTest::p10Pay, PromisesTest::p11Day,
            PromisesTest::p12Book, PromisesTest::p13Cheque, PromisesTest::p14Really, PromisesTest::p15Kept,
            PromisesTest::p16Sums, PromisesTest::p17Flight, PromisesTest::p18Ring, PromisesTest::p19LetIn,
            PromisesTest::p20LeastHold, PromisesTest::p21Chain, PromisesTest::p22Entry,
            PromisesTest::p23Growth, PromisesTest::p24Sign, PromisesTest::p25Kiters, PromisesTest::p26Cries,
            PromisesTest::p27Like, PromisesTest::p28Alone, PromisesTest::p29Ending, PromisesTest::p30Snowed,
            PromisesTest::p31Payment, PromisesTest::p32PayFloat, PromisesTest::p33Room, PromisesTest::p34Seen,
            PromisesTest::p35Burnt, PromisesTest::p36Honest, PromisesTest::p37Image, PromisesTest::p38Look};
        for (int i = 0; i < tests.length; i++) {
            promise = i + 1;
            tests[i].run();
        }
        promise = 7;
        p7Laws();
        promise = 11;
        p11Order();
        promise = 24;
        p24Match();
        promise = 29;
        p29Orders();
        p29Days();
        promise = 30;
        p30Far();
        System.out.println(wrong == 0 ? "all promises hold" : wrong + " answers are not as due");
        if (wrong != 0) {
            System.exit(1);
        }
    }
}
