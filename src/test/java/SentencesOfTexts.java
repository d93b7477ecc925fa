/** The document's second part: laws and signs as texts, their faults, and what a law is asked with. */
final class SentencesOfTexts {
    private static final String TWELVE = "fee 1;fee 2;fee 3;fee 4;fee 5;fee 6;fee 7;fee 8;fee 9;fee 1;fee 2;fee 3;";

    private SentencesOfTexts() {
    }

    static void all() {
        forms();
        conditions();
        tokens();
        faults();
        laws();
        facts();
    }

    private static void says(String quote, Runnable test) {
        Sentences.says(quote, test);
    }

    /** What a law holds the cheque of 1234 that house 4 pays in at bank 1, with 50 in its book there. */
    private static void holds(String law, int due) {
        Run x = Run.apart().does("cash 4 1 50").law(1, law).does("pay 3 2 4 1 1234").is("cheque 0 8", due);
        if (x.answer("cheque 0 8") != due) {
            Sentences.fails("that was the law " + law);
        }
    }

    private static void so(String condition, boolean due) {
        holds("hold 5 when " + condition + ";hold 6;", due ? 5 : 6);
        Run x = new Run().law(4, "cry when " + condition + ";").is("sign 0 1 7", due ? 1 : 0);
        if (x.answer("sign 0 1 7") != (due ? 1 : 0)) {
            Sentences.fails("that was the condition " + condition);
        }
    }

    private static void fault(int k, String s, int fault, int place) {
        new Run().faulty(k, s, fault, place);
    }

    private static void forms() {
        says("LAWS of BANKS 0 .. 3 are TEXTS (empty at first) = {(hold | limit | fee) E [when B] ;}.", () -> {
            Run x = new Run();
            for (int bank = 0; bank < 4; bank++) {
                x.no("cash 0 " + bank + " -1").is("pay 1 " + bank + " 0 " + bank + " 5", bank);
                x.is("cheque " + bank + " 8", 0);
            }
            x.is("day", 4).is("sums 3", 0);
            for (int bank = 0; bank < 4; bank++) {
                String law = "hold " + (bank + 1) + ";limit 1" + bank + ";fee 2" + bank + ";";
                x.stands(bank, law, 3).no("cash 5 " + bank + " -1" + (bank + 1)).yes("cash 5 " + bank + " -1" + bank);
                int k = 4 + bank;
                x.is("pay 4 " + bank + " 3 " + bank + " 50", k).is("cheque " + k + " 8", bank + 1);
            }
            x.is("day", 4).is("sums 3", 20 + 21 + 22 + 23);
            x.stands(0, "hold 1 when 1=1;hold 2;limit 3 when 1=1;fee 4;", 4).stands(3, "", 0);
            x.is("pay 4 3 3 3 50", 8).is("cheque 8 8", 0);
            fault(0, "hold;", 1, 4);
            fault(1, "hold 1 when;", 1, 11);
            fault(2, "hold 1 1=1;", 1, 7);
            fault(3, "when 1=1;", 1, 0);
            fault(0, "hold 1;1;", 1, 7);
            fault(0, "hold 1;;", 1, 7);
            fault(0, ";", 1, 0);
            fault(0, "cry when 1=1;", 1, 0);
            fault(0, "hold 1 when 1=1 when 1=1;", 1, 16);
            fault(0, "hold limit 1;", 1, 5);
        });
        says("SIGNS (4) are a TEXT (empty at first) = {cry when B ;}.", () -> {
            Run x = new Run().is("sign 0 1 7", 0).stands(4, "cry when 1=2;cry when 2=2;", 2).is("sign 0 1 7", 1);
            x.stands(4, "cry when 1=2;", 1).is("sign 0 1 7", 0).stands(4, "", 0).is("cries 15 0", 0);
            fault(4, "cry;", 1, 3);
            fault(4, "cry 1=1;", 1, 4);
            fault(4, "cry 1 when 1=1;", 1, 4);
            fault(4, "cry when;", 1, 8);
            fault(4, "cry when 1=1", 1, 12);
            fault(4, "hold 1 when 1=1;", 1, 0);
            fault(4, "cry when 1=1;limit 1;", 1, 13);
            fault(4, "cry when 1=1;when 1=1;", 1, 13);
        });
    }

    private static void conditions() {
        says("B = A {or A}.", () -> {
            so("1=2 or 1=1", true);
            so("1=1 or 1=2", true);
            so("1=2 or 1=2", false);
            so("1=2 or 1=2 or 1=1", true);
            so("1=2 and 1=1 or 1=1", true);
            so("1=1 or 1=1 and 1=2", true);
            fault(4, "cry when or 1=1;", 1, 9);
            fault(4, "cry when 1=1 or;", 1, 15);
            fault(4, "cry when 1=1 or or 1=1;", 1, 16);
        });
        says("A = C {and C}.", () -> {
            so("1=1 and 1=1", true);
            so("1=1 and 1=2", false);
            so("1=2 and 1=1", false);
            so("1=1 and 1=1 and 1=2", false);
            fault(4, "cry when and 1=1;", 1, 9);
            fault(4, "cry when 1=1 and;", 1, 16);
            fault(4, "cry when 1=1 and or 1=1;", 1, 17);
        });
        says("C = E (< | = | >) E | not C | ( B ).", () -> {
            so("1<2", true);
            so("2<2", false);
            so("3<2", false);
            so("1=2", false);
            so("2=2", true);
            so("1>2", false);
            so("2>2", false);
            so("3>2", true);
            so("not 1=2", true);
            so("not not 1=2", false);
            so("not 1<2", false);
            so("not 2<1", true);
            so("not 2>1", false);
            so("not 1>2", true);
            so("1<2 and 1=1", true);
            so("1=1 and 2>1", true);
            so("1<2 and 2>1", true);
            so("2<1 or 1>2", false);
            so("not 1=2 and 1=2", false);
            so("not (1=2 and 1=2)", true);
            so("not 1=1 or 1=1", true);
            so("not (1=1 or 1=1)", false);
            so("(1=1 or 1=1) and 1=2", false);
            so("1=2 and (1=1 or 1=1)", false);
            so("((1=1))", true);
            // as deep as can be, with something left to do at each depth
            String deep = "1=2 or 1=1 and (".repeat(8) + "1=2 or 1=1 and 1+2*3=1+2*";
            so(deep + "3" + ")".repeat(8), true);
            so(deep + "4" + ")".repeat(8), false);
            so("not 1=2 and (".repeat(4) + "not (1=1 and 1=2)" + ")".repeat(4), true);
            fault(4, "cry when 1;", 1, 10);
            fault(4, "cry when 1=;", 1, 11);
            fault(4, "cry when 1=1=1;", 1, 12);
            fault(4, "cry when 1<=1;", 1, 11);
            fault(4, "cry when not;", 1, 12);
            fault(4, "cry when ();", 1, 10);
            fault(4, "cry when (1=1;", 1, 13);
            fault(4, "cry when 1=1);", 1, 12);
            fault(4, "cry when (1=1))", 1, 14);
            fault(4, "cry when (1)=1;", 1, 11);
            fault(4, "cry when 1=(1);", 1, 11);
            fault(4, "cry when 1=not 1;", 1, 11);
            fault(4, "cry when 1 not 1=1;", 1, 11);
        });
        says("E = T {(+ | -) T}.", () -> {
            holds("hold 2+3;", 5);
            holds("hold 9-3-2;", 4);
            holds("hold 9-3+2;", 8);
            holds("hold 1+2*3;", 7);
            holds("hold 19-2*3;", 13);
            fault(0, "hold +1;", 1, 5);
            fault(0, "hold -1;", 1, 5);
            fault(0, "hold 1+;", 1, 7);
            fault(0, "hold 1--1;", 1, 7);
            fault(0, "hold 1 2;", 1, 7);
            fault(0, "hold (1);", 1, 5);
        });
        says("T = U {* U | / NUMBER}.", () -> {
            holds("hold 2*3*3;", 18);
            holds("hold 17/3*2;", 10);
            holds("hold 3*9/4;", 6);
            holds("hold 99/4/2;", 12);
            holds("hold amount/100;", 12);
            holds("hold 2*house;", 8);
            fault(0, "hold *1;", 1, 5);
            fault(0, "hold 1*;", 1, 7);
            fault(0, "hold 8/house;", 1, 7);
            fault(0, "hold 8/(2);", 1, 7);
            fault(0, "hold 8/-2;", 1, 7);
            fault(0, "hold 8/;", 1, 7);
            fault(0, "hold 8/2/house;", 1, 9);
            fault(0, "hold 8*+2;", 1, 7);
        });
        says("U = NUMBER | amount | far | rail | house | weekday | book | count in LAWS; NUMBER | turn | count | "
            + "round | match | book | low | far in SIGNS.", () -> {
                String[] words = {"amount", "far", "rail", "house", "weekday", "book", "count", "turn", "round",
                    "match", "low", "hold", "limit", "fee", "cry", "when", "or", "and", "not", "number"};
                String inLaws = " amount far rail house weekday book count ";
                String inSigns = " turn count round match book low far ";
                for (String word : words) {
                    String law = "hold " + word + "*1;";
                    String sign = "cry when 1*" + word + "=1;";
                    if (inLaws.contains(" " + word + " ")) {
                        new Run().stands(2, law, 1);
                    } else {
                        fault(2, law, 1, 5);
                    }
                    if (inSigns.contains(" " + word + " ")) {
                        new Run().stands(4, sign, 1);
                    } else {
                        fault(4, sign, 1, 11);
                    }
                }
                holds("hold 7;", 7);
                holds("hold amount/100;", 12);
                holds("hold far;", 1);
                holds("hold rail;", 2);
                holds("hold house;", 4);
                holds("hold weekday+book/10+count;", 5);
            });
    }

    private static void tokens() {
        says("TOKENS: letters (capitals, too) as many as stand together are KEYWORDS (those told for such a TEXT) or "
            + "none;", () -> {
                new Run().stands(0, "hold1when1=1and2=2or(3=3)and not(4=4);fee2;", 2);
                new Run().stands(4, "cry when(turn=1)or(count=2);", 1);
                String[] none = {"Hold 1;", "HOLD 1;", "holD 1;", "holds 1;", "hol 1;", "holdhold 1;", "h 1;", "a 1;",
                    "z 1;", "A 1;", "Z 1;", "holda 1;", "holdz 1;", "holdA 1;", "holdZ 1;", "ahold 1;", "Zhold 1;"};
                for (String s : none) {
                    fault(0, s, 1, 0);
                }
                // behind letters stands each of the 256 signs
                for (int sign = 0; sign < 256; sign++) {
                    char c = (char) sign;
                    String s = "hold" + c + "1;";
                    if (c == 32 || c == 10 || c >= '0' && c <= '9') {
                        new Run().stands(0, s, 1);
                    } else {
                        fault(0, s, 1, c >= 'a' && c <= 'z' || c >= 'A' && c <= 'Z' ? 0 : 4);
                    }
                }
                fault(0, "ho ld 1;", 1, 0);
                fault(0, "hold amountfar;", 1, 5);
                fault(0, "hold 1 When 1=1;", 1, 7);
                fault(4, "cry when notnot 1=1;", 1, 9);
                fault(4, "cry when 1=1 AND 1=1;", 1, 13);
                fault(4, "crywhen 1=1;", 1, 0);
            });
        says("digits as many as stand together NUMBERS of 1 to 5 digits or none; ; + - * / ( ) < = > .", () -> {
            holds("hold 0;", 0);
            holds("hold 9;", 9);
            holds("hold 00012;", 12);
            holds("hold 99999-99990;", 9);
            holds("hold 5 when 99999>99998;", 5);
            fault(0, "hold 100000;", 1, 5);
            fault(0, "hold 000001;", 1, 5);
            fault(0, "hold 1+000001;", 1, 7);
            fault(0, "hold 99999999999999999999;", 1, 5);
            fault(0, "hold 1.5;", 1, 6);
            // behind a number stands each of the 256 signs; those that can follow it are few
            for (int sign = 0; sign < 256; sign++) {
                char c = (char) sign;
                String s = "fee 1" + c + ";";
                boolean blank = c == 32 || c == 10;
                if (blank || c >= '0' && c <= '9') {
                    new Run().stands(0, s, 1);
                } else {
                    fault(0, s, 1, "+-*/;".indexOf(c) >= 0 ? 6 : 5);
                }
            }
            new Run().stands(0, "fee 9+8-7*6/5 when(1<2)and(2=2)and(3>2);", 1);
        });
        says("Blanks (32, 10) between.", () -> {
            new Run().stands(0, "  hold \n 1\nwhen  1 = 1 ; \n\n fee\n2 ;  ", 2).stands(0, " \n ", 0);
            new Run().stands(0, "hold\n1;", 1);
            fault(0, "hold\t1;", 1, 4);
            fault(0, "hold\r1;", 1, 4);
            fault(0, "hold 1;\f", 1, 7);
            fault(0, "hold 1;\u00a0", 1, 7);
            fault(0, "hold 1 1;", 1, 7);
            fault(0, "hold 8 / 2 2;", 1, 11);
            fault(4, "cry w hen 1=1;", 1, 4);
        });
        says("Ints, which wrap; / goes towards 0.", () -> {
            holds("hold 65536*65536+3;", 3);
            so("46341*46341<0", true);
            so("46340*46340>0", true);
            so("46340*46340+99999<0", true);
            so("0-46340*46340-99999>0", true);
            // 46341 * 46341 is -2147479015
            so("46341*46341=0-99999*21474-99999-490", true);
            // by 10000 that is -214747, not -214748
            holds("hold 46341*46341/10000+99999*2+14749+2;", 2);
            // -2147483648 by 1 and by 2
            so("32768*65536/1<0", true);
            so("32768*65536/2+16384*65536=0", true);
            so("32768*65536-1>0", true);
            // a book below nothing: -7 by 2 is -3
            Run x = new Run().law(1, "limit 7;hold 10+book/2;").yes("cash 4 1 -7").does("pay 3 2 4 1 5");
            x.is("cheque 0 8", 7);
            holds("hold 7/2;", 3);
        });
    }

    private static void faults() {
        says("FAULTS, the first by its place, at one place the least:", () -> {
            fault(0, "hold 1/0 x;", 2, 7);
            fault(0, "hold x/0;", 1, 5);
            fault(0, "hold 1 when ((((((((1/0=1", 2, 22);
            fault(0, "hold 1/0;" + TWELVE, 2, 7);
            fault(0, TWELVE + "hold 1/0;", 3, 72);
            fault(4, "cry when (((((((((1/0=1;", 3, 17);
            fault(4, "cry when ((((((((1=1 (", 1, 21);
            // at one place: the 13th line, or the ninth (, that can't stand there at all
            fault(0, TWELVE + "cry", 1, 72);
            fault(0, TWELVE + ";", 1, 72);
            fault(0, TWELVE + "when", 1, 72);
            fault(4, "cry when ((((((((1=(", 1, 19);
            fault(4, "cry when ((((((((1=not", 1, 19);
            fault(0, "hold 1/000000;", 1, 7);
        });
        says("1 what can't stand there (the end: the text's length).", () -> {
            fault(0, "hold", 1, 4);
            fault(0, "hold   ", 1, 7);
            fault(0, "hold 1", 1, 6);
            fault(0, "hold 1\n", 1, 7);
            fault(0, "hold 1+", 1, 7);
            fault(0, "hold 1/", 1, 7);
            fault(0, "hold 1 when", 1, 11);
            fault(0, "hold 1 when 1", 1, 13);
            fault(0, "hold 1 when 1=", 1, 14);
            fault(0, "hold 1 when (1=1", 1, 16);
            fault(0, "hold 1 when not ", 1, 16);
            fault(0, "hold 1;fee", 1, 10);
            fault(4, "cry", 1, 3);
            fault(4, "cry when 1=1", 1, 12);
            new Run().stands(0, "", 0).stands(4, "", 0).stands(0, "hold 1;", 1);
            // full tapes: 197 times one more, with its end and without; each text is as if it were the first
            String ones = "fee 1" + "+1".repeat(197);
            Run full = new Run().stands(0, ones + ";", 1).stands(0, ones + ";", 1).faulty(0, ones + "+", 1, 400);
            full.faulty(0, "fee 1 " + "+1".repeat(197), 1, 400).faulty(0, "fee 1 " + "+1".repeat(195) + "when", 1, 400);
            full.stands(1, ones + ";", 1).does("pay 1 1 2 2 7", "day").is("sums 3", 198);
            fault(0, "hold 1;x", 1, 7);
            fault(0, "hold \u00ff;", 1, 5);
            fault(0, "\0", 1, 0);
        });
        says("2 (at the NUMBER) a part by 0.", () -> {
            fault(0, "hold 1/0;", 2, 7);
            fault(0, "hold 1 /  0;", 2, 10);
            fault(0, "hold 1/00000;", 2, 7);
            fault(0, "hold 1/0", 2, 7);
            fault(0, "hold 0*7/0;", 2, 9);
            fault(0, "hold 8/2/0;", 2, 9);
            fault(0, "fee 1;hold 1+amount/0*2;", 2, 20);
            fault(0, "hold 1 when 1=rail/0;", 2, 19);
            fault(4, "cry when turn/0=1;", 2, 14);
            fault(4, "cry when 1=2 and turn/0=1;", 2, 22);
            new Run().stands(0, "hold 0/1;fee 1/00001;limit 0*0;", 3);
        });
        says("3 (at its KEYWORD) the 13th line; (at it) the 9th ( or not that is open.", () -> {
            new Run().stands(0, TWELVE, 12).stands(1, TWELVE.replace("fee 2", "hold 2"), 12);
            fault(0, TWELVE + "fee 4;", 3, 72);
            fault(0, TWELVE + " \n hold", 3, 75);
            fault(0, TWELVE.replace("fee 1", "limit 1") + "limit", 3, 76);
            StringBuilder signs = new StringBuilder();
            for (int n = 0; n < 12; n++) {
                signs.append("cry when 1=1;");
            }
            new Run().stands(4, signs.toString(), 12);
            fault(4, signs + "cry", 3, 156);
            new Run().stands(4, "cry when ((((((((1=1))))))));", 1);
            fault(4, "cry when (((((((((1=1)))))))));", 3, 17);
            new Run().stands(4, "cry when not not not not not not not not 1=1;", 1);
            fault(4, "cry when not not not not not not not not not 1=1;", 3, 41);
            new Run().stands(4, "cry when not(not(not(not(1=1))));", 1);
            fault(4, "cry when not(not(not(not((1=1)))));", 3, 25);
            fault(4, "cry when not(not(not(not(not 1=1))));", 3, 25);
            fault(0, "hold 1 when ((((((((not", 3, 20);
            // those that are closed are not open any more
            new Run().stands(4, "cry when (((((((1=1)))))))and((((((((1=1))))))))or not(((((((1=1)))))));", 1);
            new Run().stands(4, "cry when not not not not not not not not 1=1 and not not 1=1 or(1=1);", 1);
            new Run().stands(4, "cry when (not(1=1)and not(1=1)and(((((((1=1))))))));", 1);
            fault(4, "cry when (not(1=1)and((((((((1=1)))))))));", 3, 28);
            new Run().stands(4, "cry when ((((((((1=1)))))))and((1=1)));", 1);
            String closed = "cry when (((((((1=1)and not 1=1 or(not 1=1)))))));";
            new Run().stands(4, closed, 1);
            fault(4, closed + "cry when (((((((((", 3, closed.length() + 17);
        });
    }

    private static void laws() {
        says("HOLD, LIMIT, FEE by a BANK's LAW: E of the first line of that word whose B is so (or that has none), "
            + "cut to 0 .. 20, 0 .. 999999, 0 .. 9999; 0 without one.", () -> {
                holds("limit 3;hold 5 when 1=2;hold 6 when 2=2;hold 7;", 6);
                holds("hold 8;hold 6 when 2=2;", 8);
                holds("fee 1;limit 2;", 0);
                holds("hold 5 when 1=2;", 0);
                holds("hold 19;", 19);
                holds("hold 20;", 20);
                holds("hold 21;", 20);
                holds("hold 46341*46341;", 0);
                holds("hold 0-1;hold 5;", 0);
                limits();
                fees();
            });
    }

    private static void limits() {
        new Run().law(0, "limit 40 when 1=2;limit 50;limit 60;").no("cash 0 0 -51").yes("cash 0 0 -50").no("cash 0 0 -1");
        // 999999 and no more
        Run most = new Run().law(0, "limit 99999*11;").yes("cash 0 0 -999999").no("cash 0 0 -1");
        most.yes("cash 0 0 1").yes("cash 0 0 -1");
        Run just = new Run().law(0, "limit 99999*10+8;").no("cash 0 0 -999999").yes("cash 0 0 -999998");
        new Run().law(0, "limit 0-5;").does("cash 0 0 10").yes("cash 0 0 -10").no("cash 0 0 -1");
        new Run().law(1, "hold 9;fee 9;").no("cash 0 1 -1");
    }

    private static void fees() {
        String[] laws = {"fee 3 when 1=2;fee 4;fee 5;", "fee 9998;", "fee 9999;", "fee 10000;", "fee 99999;", "fee 0;",
            "fee 0-5;", "hold 1;limit 2;", "fee 6 when 1=2;"};
        int[] due = {4, 9998, 9999, 9999, 9999, 0, 0, 0, 0};
        for (int i = 0; i < laws.length; i++) {
            Run x = new Run().law(2, laws[i]).does("pay 0 2 1 1 7").is("day", 1).is("sums 3", due[i]);
            x.is("book 0 2 0", -due[i]).is("look 6", due[i] > 0 ? 2 : 1);
        }
    }

    private static void facts() {
        says("amount, rail (RAIL between AT's and ON's TOWNS), far (1 if they are unlike, else 0) of the CHEQUE; "
            + "weekday of NOW;", () -> {
                Run x = Run.apart().law(0, "hold rail+10*far when amount=7;").does("rail 0 1 5", "rail 0 2 0");
                int[] on = {1, 2, 3, 0};
                int[] hold = {15, 10, 0, 0};
                for (int k = 0; k < 4; k++) {
                    x.is("pay 1 " + on[k] + " 2 0 7", k).is("cheque " + k + " 8", hold[k]);
                }
                x.is("pay 1 1 2 0 8", 4).is("cheque 4 8", 0);
                // limit and fee: of the cheque, too, and on the day on which it is asked for
                String law = "limit amount when rail=2 and far=1 and weekday=2;fee amount+weekday*100+rail*10+far;";
                Run y = Run.apart().law(0, law).is("pay 1 0 2 1 7", 0).is("day", 0).is("pay 1 0 2 3 8", 1);
                y.is("day", 1).is("cheque 0 6", 1).is("cheque 1 6", 2).is("sums 3", 208).is("pay 1 0 2 1 9", 2);
                y.is("day", 0).is("day", 1).is("sums 3", 208 + 9 + 400 + 20 + 1);
                Run z = new Run().law(3, "hold 3+weekday;").days(5).is("pay 0 0 0 3 5", 0).is("cheque 0 8", 8);
                z.days(2).is("pay 0 0 0 3 5", 1).is("cheque 1 8", 3);
            });
        says("house, book, count of who pays it in AT the BANK (hold), or drew it ON the BANK (limit, fee): BOOK there "
            + "ahead of it, how many CHEQUES he paid in there in the last seven DAYS (NOW less 6 .. NOW; when HOLD is "
            + "asked the one that is paid in is not counted).", () -> {
                Run x = new Run().law(0, "hold house;").law(1, "hold book/10;").law(2, "hold count;");
                x.does("cash 4 1 60", "cash 3 1 90", "cash 4 0 150");
                x.is("pay 3 1 4 0 10", 0).is("cheque 0 8", 4).is("pay 3 0 4 1 10", 1).is("cheque 1 8", 6);
                x.is("pay 3 0 4 1 10", 2).is("cheque 2 8", 7);
                for (int n = 0; n < 4; n++) {
                    x.is("pay 4 2 3 2 10", 3 + n).is("cheque " + (3 + n) + " 8", n);
                }
                x.is("pay 3 2 4 2 10", 7).is("cheque 7 8", 0);
                countedDays();
                drawers();
            });
        says("(Cash that is drawn: LIMIT with amount that, rail and far 0.)", () -> {
            new Run().law(0, "limit amount;").yes("cash 0 0 -5").no("cash 0 0 -1").does("cash 0 0 5").yes("cash 0 0 -6");
            new Run().law(0, "limit amount-1;").no("cash 0 0 -5").does("cash 0 0 1").yes("cash 0 0 -5");
            Run.apart().law(1, "limit 9 when rail=0 and far=0;").yes("cash 0 1 -9");
            Run.apart().law(1, "limit 9 when rail>0 or far>0;").no("cash 0 1 -1");
            Run x = new Run().law(2, "limit 9 when weekday=1 and house=3 and book=20 and count=1;").does("cash 3 2 15");
            x.does("pay 0 0 3 2 5").no("cash 3 2 -29").days(1).does("cash 4 2 20").no("cash 4 2 -29");
            x.is("cheque 0 6", 2).no("cash 3 2 -30").yes("cash 3 2 -29").is("book 3 2 0", -9);
        });
    }

    private static void countedDays() {
        // paid in on day 1: it counts up to day 7; what has come back counts, too
        Run y = new Run().law(2, "hold count;").days(1).is("pay 4 3 3 2 10", 0).days(6).is("look 0", 7);
        y.is("cheque 0 6", 3).is("book 3 2 3", 1).is("pay 4 3 3 2 10", 1).is("cheque 1 8", 1);
        y.days(1).is("book 3 2 3", 1).is("pay 4 3 3 2 10", 2).is("cheque 2 8", 1);
        y.is("pay 4 3 3 2 10", 3).is("cheque 3 8", 2);
    }

    private static void drawers() {
        // the drawer's house, its book there ahead of the cheque, and its count with this cheque itself
        Run x = new Run().law(0, "limit 30 when house=2 and book=20 and count=1;fee house*1000+book+count;");
        x.does("cash 2 0 15", "pay 5 1 2 0 5").is("pay 2 0 3 1 50", 1).is("day", 1).is("cheque 1 6", 1);
        x.is("book 2 0 0", -30).is("pay 2 0 2 0 1", 2).is("day", 1).is("look 0", 2);
        // on day 2 5 came back: -35 and 1 more; then 2 (itself counted) and 2000
        x.is("cheque 2 6", 2).is("sums 3", 2000 - 34 + 2);
        Run y = new Run().law(0, "fee house*1000+book+count;").does("cash 4 0 70").is("pay 4 0 3 1 90", 0);
        // the first fee makes the book -4000, so that the second one is 0
        y.is("pay 4 0 3 1 91", 1).is("day", 2).is("sums 3", 4070).is("book 4 0 0", -4000);
    }
}
