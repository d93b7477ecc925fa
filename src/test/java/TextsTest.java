import java.util.Random;

/** Texts by chance, whole and spoilt: lines, faults and places as NaiveMoney's checker finds them. */
public final class TextsTest {
    private static int wrong;

    private static void same(String text, String what, int got, int due) {
        if (got != due) {
            wrong++;
            System.out.println(what + " answered " + got + ", due is " + due + ": " + text);
        }
    }

    private static void feed(NowhereMoney x, String s) {
        for (int i = 0; i < s.length(); i += 20) {
            int[] v = new int[5];
            for (int j = 0; j < 20; j++) {
                v[j / 4] = v[j / 4] << 8 | (i + j < s.length() ? s.charAt(i + j) : 32);
            }
            x.feed(v[0], v[1], v[2], v[3], v[4]);
        }
        x.end(s.length());
    }

    public static void main(String[] args) {
        TextMaker maker = new TextMaker(new Random(5));
        int[] met = new int[4];
        for (int n = 0; n < 1500; n++) {
            NowhereMoney x = new NowhereMoney();
            for (int i = 0; i < 20; i++) {
                boolean ofSigns = (n + i) % 3 == 0;
                String s = maker.any(ofSigns);
                NaiveMoney.Checker c = new NaiveMoney.Checker(s, ofSigns);
                feed(x, s);
                same(s, "text", x.text(ofSigns ? 4 : i % 4), c.lines);
                same(s, "fault(0)", x.fault(0), c.fault);
                same(s, "fault(1)", x.fault(1), c.place);
                met[c.fault]++;
            }
        }
        for (int fault = 0; fault < 4; fault++) {
            if (met[fault] < 100) {
                wrong++;
                System.out.println("only " + met[fault] + " texts of fault " + fault);
            }
        }
        System.out.println(wrong == 0 ? "all texts are read alike" : wrong + " differ");
        if (wrong != 0) {
            System.exit(1);
        }
    }
}
