/** The document's third part: what is real, flights and rings, chains, entries, growth and signs. */
final class SentencesOfWater {
    private SentencesOfWater() {
    }

    static void all() {
        water();
        flights();
        rings();
        chains();
        signs();
        cries();
    }

    private static void says(String quote, Runnable test) {
        Sentences.says(quote, test);
    }

    private static void water() {
        says("BOOKS of a HOUSE: all of its BOOKS added.", () -> {
            Run x = new Run().law(3, "limit 4;").is("really 2 0", 0);
            x.does("cash 2 0 100", "cash 2 1 20", "cash 2 2 3", "cash 2 3 -4", "cash 1 0 7", "pay 2 1 2 2 1000");
            x.is("really 2 0", 1119).is("really 1 0", 7).is("really 0 0", 0);
        });
        says("REAL: BOOKS less all CHEQUES on their WAY that it drew, less all GOING BACK that it paid in.", () -> {
            Run x = Run.apart().does("cash 0 0 40", "pay 0 0 1 1 40", "pay 0 0 1 3 7", "pay 0 0 0 1 300");
            x.is("really 0 1", 340 - 40 - 7 - 300).is("really 1 1", 47);
            // 7 is paid; then 40 and 300 are returned
            x.is("day", 0).is("really 0 1", 333 - 340).is("really 1 1", 47).is("day", 2);
            x.is("really 0 1", 333 - 300).is("really 1 1", 47 - 40).days(2).is("really 0 1", 33).is("really 1 1", 7);
        });
        says("WATER: BOOKS less REAL.", () -> {
            Run x = Run.apart().is("really 0 2", 0).does("pay 0 0 0 1 300", "pay 0 1 5 0 20");
            x.row("really 0", 300, -20, 320).row("really 5", 20, 20, 0).days(2).row("really 0", 280, -20, 300);
            x.row("really 5", 20, 20, 0).days(2).row("really 0", -20, -20, 0);
        });
        says("In FLIGHT are all CHEQUES on their WAY or GOING BACK.", () -> {
            Run x = Run.apart().does("cash 0 0 100", "pay 0 0 1 1 60", "pay 0 0 1 3 50", "pay 0 0 1 3 51");
            x.is("sums 1", 161).is("sums 4", 3).is("day", 1).is("cheque 1 6", 1).is("cheque 2 6", 2);
            x.is("sums 1", 111).is("sums 4", 2).is("day", 1).is("cheque 0 6", 2).is("cheque 2 6", 3);
            x.is("sums 1", 60).is("sums 4", 1).days(2).is("sums 1", 0).is("sums 4", 0);
        });
        says("(All BOOKS less all in FLIGHT are CASH, all paid in less drawn, less FEES.)", () -> {
            Run x = Run.apart().law(0, "fee 9;").law(1, "fee 30;limit 5;").does("cash 3 0 100", "cash 3 1 -5");
            x.does("pay 3 0 2 1 60", "pay 3 0 2 3 70", "pay 2 1 4 2 66", "pay 4 2 3 0 200");
            x.row("sums", 491, 396, 95, 0, 4).days(1).row("sums", 421, 326, 95, 0, 3).days(1);
            x.row("sums", 331, 266, 95, 30, 2).days(1);
            for (int day = 3; day < 12; day++) {
                int left = x.answer("sums 0") - x.answer("sums 1");
                x.is("sums 2", 95).is("sums 3", 95 - left).days(1);
            }
            x.row("sums", 65, 0, 95, 30, 0);
        });
        says("KEPT of a DAY: BOOKS and REAL of each HOUSE, BOOK at each BANK.", () -> {
            Run x = Run.apart().does("cash 0 0 1", "cash 0 1 20", "cash 0 2 300", "cash 0 3 4000");
            x.does("cash 5 3 8", "pay 0 0 1 1 30000", "pay 0 0 1 1 5").days(1);
            x.row("kept 1 0", 4321, 4321 - 30005, 1, 20, 300, 4000).row("kept 1 1", 30005, 30005, 0, 30005, 0, 0);
            x.row("kept 1 5", 8, 8, 0, 0, 0, 8).row("kept 1 4", 0, 0, 0, 0, 0, 0).days(1);
            x.row("kept 2 1", 30005, 0, 0, 30005, 0, 0).row("kept 2 0", 4321, 4321, 1, 20, 300, 4000);
        });
    }

    private static void flights() {
        says("FLIGHT of a CHEQUE that would be paid in AT a BANK, ON a BANK, on a DAY: DAYS from that one to that on "
            + "which it would be asked for (CLOSED DAYS and SNOW as told; DAYS above 89 have neither).", () -> {
                Run x = Run.apart().does("rail 0 2 5").is("flight 0 3 0", 1).is("flight 0 0 5", 2);
                x.is("flight 0 1 4", 3).is("flight 0 1 5", 2).is("flight 2 0 2", 5).is("flight 2 0 1", 6);
                // closed, snow, both, told and not told any more
                x.yes("told 0 1 true").is("flight 0 3 0", 2).is("flight 0 1 0", 2).yes("told 1 2 true");
                x.is("flight 0 3 0", 2).is("flight 0 1 0", 3).yes("told 0 2 true").is("flight 0 3 0", 3);
                x.yes("told 0 1 false").is("flight 0 3 0", 1).is("flight 0 1 0", 3).yes("told 1 2 false");
                x.is("flight 0 1 0", 3).yes("told 0 2 false").is("flight 0 1 0", 2);
                // as it would really be asked for
                x.does("told 1 7 true", "told 1 8 true", "told 0 9 true").is("flight 0 1 5", 5).days(5).does("pay 0 1 1 0 9").days(4);
                x.is("cheque 0 6", 0).days(1).is("cheque 0 9", 10).is("flight 0 1 5", 5);
                above();
            });
        says("A RING of k BANKS (2 .. 4): an order of k unlike ones, each CHEQUE drawn ON one and paid in AT the next "
            + "(ON the last one AT the first), each of a told amount by HOUSE 0 on a told DAY (HOLD asked with its "
            + "WEEKDAY, book and count as NOW).", () -> {
                Run x = uneven();
                int[] most = {8, 12, 13};
                int[] ring = {12, 21, 213};
                for (int k = 2; k <= 4; k++) {
                    x.is("ring " + k + " 1 0 0", most[k - 2]).is("ring " + k + " 1 0 1", ring[k - 2]);
                    x.is("ring " + k + " 9 0 0", 9 * most[k - 2]);
                }
                x.outside("ring ? 1 0 0", 2, 4, -1).outside("ring ? 1 0 1", 2, 4, -1);
                asked();
            });
    }

    private static void above() {
        Run x = Run.apart().does("rail 0 1 5").is("flight 0 0 89", 2).is("flight 0 2 88", 3).is("flight 0 2 89", 2);
        for (int day = 1; day < 90; day++) {
            x.yes("told 1 " + day + " true");
        }
        // five trains from 90 on; then no business but behind 90, a Sunday
        x.is("flight 0 1 0", 94).is("flight 0 0 0", 1);
        for (int day = 1; day < 90; day++) {
            x.yes("told 0 " + day + " true");
        }
        x.is("flight 0 0 0", 91).is("flight 0 2 0", 91).is("flight 0 0 1", -1);
    }

    /** Bank 1 holds what comes from town 0, so that what is held up is not the same both ways. */
    private static Run uneven() {
        return Run.apart().does("rail 0 1 5", "rail 0 2 3", "rail 1 2 4").law(1, "hold 20 when rail=5;");
    }

    private static void asked() {
        // the hold of bank 3 alone is seen: 01 is the ring, unless it is 0
        String[] laws = {"hold 1 when house=0;", "hold 1 when house=1;", "hold 1 when weekday=3;", "hold 1 when far=0;",
            "hold 1 when amount=50;", "hold 1 when book=70;", "hold 1 when count=2;", "hold 1 when weekday=1;"};
        int[] held = {1, 0, 1, 1, 1, 1, 1, 0};
        for (int i = 0; i < laws.length; i++) {
            Run x = new Run().does("cash 0 0 50", "pay 1 1 0 0 10", "pay 1 1 0 0 10", "cash 1 0 70");
            for (int bank = 1; bank < 4; bank++) {
                x.law(bank, "hold 1;");
            }
            x.law(0, laws[i]).days(1).is("cheque 1 6", 2).is("ring 2 50 3 0", held[i] == 1 ? 0 : 50);
            x.is("ring 4 50 3 0", held[i] == 1 ? 0 : 50);
        }
    }

    private static void rings() {
        says("It HOLDS UP amount times (FLIGHT less HOLD, 0 at least) for each.", () -> {
            // each flight is 1: a hold of 1 or more lets nothing in, and takes nothing from the others
            for (int hold = 0; hold < 4; hold++) {
                Run x = new Run().law(0, "hold " + hold + ";").law(1, "hold " + hold + ";");
                x.law(2, "hold 20;").law(3, "hold 20;").is("ring 2 7 0 0", hold == 0 ? 14 : 0);
                x.is("ring 3 7 0 0", hold == 0 ? 14 : 0).is("ring 2 9999 0 0", hold == 0 ? 19998 : 0);
            }
            Run far = Run.apart().does("rail 0 1 5").law(1, "hold 3;").law(0, "hold 20;").law(3, "hold 9;");
            far.is("ring 2 10 0 1", 1).is("ring 2 10 0 0", 20).is("ring 2 10 5 0", 20).is("ring 2 10 4 0", 30);
        });
        says("MOST: of all RINGS of k; of several the first (by BANKS in their order).", () -> {
            Run x = new Run().is("ring 2 5 0 1", 1).is("ring 3 5 0 1", 12).is("ring 4 5 0 1", 123);
            x.is("ring 4 5 0 0", 20).law(0, "hold 9;").is("ring 2 5 0 1", 12).is("ring 3 5 0 1", 123);
            x.is("ring 4 5 0 1", 123).is("ring 4 5 0 0", 15).law(1, "hold 9;").is("ring 2 5 0 1", 23);
            x.is("ring 3 5 0 1", 23).law(2, "hold 9;").is("ring 2 5 0 1", 3).is("ring 3 5 0 1", 13);
            x.law(3, "hold 9;").is("ring 2 5 0 0", 0).is("ring 2 5 0 1", 1).is("ring 4 5 0 1", 123);
        });
        says("LET IN: MOST of k, if all BANKS had one told HOLD.", () -> {
            Run x = uneven().law(0, "hold 20;").law(2, "hold 20;").law(3, "hold 20;");
            // flights: 5 between 0 or 3 and 1, 3 between 0 or 3 and 2, 4 between 1 and 2, 1 between 0 and 3
            int[][] most = {{10, 8, 6, 4, 2, 0}, {12, 9, 6, 4, 2, 0}, {16, 12, 8, 4, 2, 0}};
            for (int k = 2; k <= 4; k++) {
                for (int hold = 0; hold < 6; hold++) {
                    x.is("letIn " + k + " 10 0 " + hold, 10 * most[k - 2][hold]);
                }
                x.is("letIn " + k + " 10 0 20", 0).is("letIn " + k + " 10 0 21", -1);
            }
        });
        says("LEAST HOLD: the least number of days that, as HOLD of all BANKS, lets MOST of k be 0 (kind 0); that, as "
            + "HOLD of CHEQUES within one TOWN (1), or between unlike ones (2), lets each of these alone hold up "
            + "nothing (0 if there are none such).", () -> {
                for (int k = 2; k <= 4; k++) {
                    String call = "leastHold " + k;
                    Run x = new Run().row(call + " 0", 1, 1, 0, -1).row(call + " 5", 2, 2, 0, -1);
                    x.yes("town 2 1").row(call + " 0", 2, 1, 2, -1).yes("rail 0 1 5").row(call + " 0", 5, 1, 5);
                    x.row(call + " 1", 6, 1, 6).row(call + " 5", 5, 2, 5).yes("rail 0 1 0").row(call + " 0", 1, 1, 1);
                    x.yes("town 1 2").yes("rail 1 2 4").row(call + " 0", 4, 1, 4);
                    // what is within one town may ask for more than 20, too
                    for (int day = 1; day < 40; day++) {
                        x.does("told 0 " + day + " true");
                    }
                    x.row(call + " 0", 40, 40, 40);
                    for (int day = 1; day < 40; day++) {
                        x.does("told 0 " + day + " false", "told 1 " + day + " true");
                    }
                    x.row(call + " 0", 43, 1, 43).is("letIn " + k + " 1 0 20", k == 2 ? 46 : 45);
                }
            });
    }

    private static void chains() {
        says("A CHEQUE RESTS on the latest one (by number), below its own number, that who drew it paid in AT the BANK "
            + "ON which it is, and that has not COME BACK.", () -> {
                Run x = Run.apart().does("cash 5 3 9", "pay 5 3 0 1 9", "pay 4 0 0 1 8", "pay 4 2 0 0 7", "pay 4 0 2 1 6");
                x.is("pay 0 1 2 2 5", 4).is("chain 4 0", 1).is("chain 0 0", -1);
                // not on itself, nor on one of a higher number
                x.is("pay 3 3 3 3 5", 5).is("chain 5 0", -1).is("pay 3 3 3 3 5", 6).is("chain 6 0", 5);
                x.is("pay 0 1 2 2 5", 7).is("pay 1 0 0 1 5", 8).is("chain 7 0", 1).is("chain 4 0", 1);
                // going back it is one still; come back it is none; paid it is one
                x.days(3).is("cheque 1 6", 2).is("chain 7 0", 1).days(1).is("cheque 1 6", 3).is("cheque 0 6", 1);
                x.is("chain 7 0", 0).is("chain 4 0", 0);
            });
        says("Its CHAIN: itself, what it RESTS on, and so on; its LENGTH, its FIRST one, and DAYS from the FIRST one's "
            + "DAY to its own.", () -> {
                Run x = new Run().does("pay 0 0 1 1 5").row("chain 0", -1, 1, 0, 0).days(1).does("pay 1 1 2 2 5");
                x.row("chain 1", 0, 2, 0, 1).days(3).row("chain 1", -1, 1, 1, 0);
                Run y = new Run().law(0, "limit 9999;").law(1, "limit 9999;").law(2, "limit 9999;");
                y.does("pay 0 0 1 1 5").days(2).does("pay 1 1 2 2 5").days(6).does("pay 2 2 3 0 5", "pay 4 2 3 0 5");
                y.row("chain 0", -1, 1, 0, 0).row("chain 1", 0, 2, 0, 2).row("chain 2", 1, 3, 0, 8);
                y.row("chain 3", -1, 1, 3, 0);
                // as long as there are cheques
                Run z = new Run();
                for (int k = 0; k < 150; k++) {
                    z.is("pay 0 0 0 0 5", k);
                }
                z.row("chain 149", 148, 150, 0, 0);
            });
        says("ENTRIES (900 at most; what is beyond is not kept) are all that changes BOOKS, in order: DAY, HOUSE, BANK, "
            + "kind (0 CASH, 1 paid in, 2 PAID, 3 FEE, 4 come back), CHEQUE (NONE for CASH), by how much (below 0 for "
            + "less), BOOK behind it.", () -> {
                Run x = Run.apart().law(2, "fee 3;").is("look 6", 0).does("cash 4 0 90", "cash 4 0 -10", "cash 4 0 -81");
                x.does("pay 4 0 5 1 80", "pay 4 2 5 1 60", "pay 4 1 5 1 7", "pay 9 0 0 0 1").days(4);
                x.row("entry 0", 0, 4, 0, 0, -1, 90, 90).row("entry 1", 0, 4, 0, 0, -1, -10, 80);
                x.row("entry 2", 0, 5, 1, 1, 0, 80, 80).row("entry 3", 0, 5, 1, 1, 1, 60, 140);
                x.row("entry 4", 0, 5, 1, 1, 2, 7, 147).row("entry 5", 2, 5, 1, 4, 2, -7, 140);
                x.row("entry 6", 2, 4, 0, 2, 0, -80, 0).row("entry 7", 2, 4, 2, 3, 1, -3, -3);
                x.row("entry 8", 4, 5, 1, 4, 1, -60, 80).is("look 6", 9).is("entry 9 0", Run.NO);
                // 900 are above what 512 calls make; still, what is beyond is not kept
                Run y = new Run(2000);
                for (int i = 1; i <= 905; i++) {
                    y.yes("cash 0 0 1").is("look 6", Math.min(i, 900));
                }
                y.row("entry 899", 0, 0, 0, 0, -1, 1, 900).is("entry 900 0", Run.NO).is("book 0 0 0", 905);
            });
        says("GROWTH: what WATER w must be behind n DAYS (0 .. 60), if each DAY a cost of c thousandths (0 .. 500) "
            + "comes to it (w is more by w times c by 1000), 999999999 at most.", () -> {
                Run x = new Run().is("growth 1000 100 0", 1000).is("growth 1000 100 1", 1100);
                x.is("growth 1000 100 2", 1210).is("growth 1000 100 3", 1331).is("growth 999 1 60", 999);
                x.is("growth 1999 1 3", 2004).is("growth 3 500 3", 9).is("growth 7000 0 60", 7000);
                x.is("growth 0 500 60", 0).is("growth 1 500 60", 1).is("growth 2 500 2", 4);
                x.is("growth 666666666 500 1", 999999999).is("growth 666666665 500 1", 999999997);
                x.is("growth 666666667 500 1", 999999999).is("growth 999999999 500 60", 999999999);
                x.is("growth 999999999 0 60", 999999999).is("growth 999999999 1 1", 999999999);
                x.is("growth 900000000 60 2", 999999999).is("growth 1000 501 1", -1).is("growth 1000 -1 1", -1);
                x.is("growth 1000 1 61", -1).is("growth 1000 1 -1", -1).is("growth 1000 500 60", 999999999);
            });
    }

    private static void signs() {
        says("SIGNS of a HOUSE by a set of BANKS, over CHEQUES that it paid in there in the last seven DAYS (NOW less 6 "
            + ".. NOW):", () -> {
                Run x = new Run().days(1).does("pay 5 3 0 0 11", "pay 5 3 0 1 22", "pay 5 3 0 2 33", "pay 5 3 1 0 44");
                int[] turn = {11, 22, 33, 33, 44, 55, 66, 0, 11, 22, 33, 33, 44, 55, 66};
                for (int banks = 1; banks <= 15; banks++) {
                    x.is("sign 0 " + banks + " 0", turn[banks - 1]);
                }
                x.days(6).is("look 0", 7).is("sign 0 7 1", 3).is("sign 0 7 0", 66).does("pay 5 3 0 0 100").days(1);
                x.is("sign 0 7 1", 1).is("sign 0 7 0", 100).is("sign 0 7 2", 1).is("sign 1 15 1", 0);
            });
        says("turn: all added; count: how many; round: those that are hundreds; far: those whose AT and ON are in "
            + "unlike TOWNS;", () -> {
                Run x = Run.apart().does("rail 0 1 0").row("sign 0 15", 0, 0, 0, 0, 0, 0, 0, 0);
                x.does("pay 1 1 0 0 100", "pay 1 0 0 0 150", "pay 1 3 0 0 1000", "pay 1 2 0 0 99");
                x.does("pay 0 0 1 0 99999", "pay 1 0 0 3 50", "pay 1 2 0 3 500", "pay 1 2 0 0 1");
                x.row("sign 0 1", 1350, 5, 2).is("sign 0 1 6", 3).row("sign 0 8", 550, 2, 1).is("sign 0 8 6", 1);
                x.row("sign 0 9", 1900, 7, 3).is("sign 0 9 6", 4).row("sign 1 1", 99999, 1, 0).is("sign 1 1 6", 0);
                // what has come back is of them
                x.days(3).is("cheque 2 6", 3).row("sign 0 1", 1350, 5, 2);
            });
        says("match: those for which a CHEQUE that the HOUSE drew ON the same BANK (where it was paid in), PAID in the "
            + "last seven DAYS, is not farther off than a tenth of it (itself by 10).", () -> {
                int[][] tried = {{89, 0}, {90, 0}, {91, 1}, {100, 1}, {110, 1}, {111, 1}, {112, 0}, {99, 1}, {109, 1}};
                for (int[] one : tried) {
                    Run x = new Run().does("cash 0 0 100", "pay 0 0 1 1 100").days(1).does("pay 2 1 0 0 " + one[0]);
                    x.is("cheque 0 6", 1).is("sign 0 1 3", one[1]).is("sign 0 15 3", one[1]);
                }
                Run least = new Run().does("cash 0 0 9", "pay 0 0 1 1 9").days(1).does("pay 2 1 0 0 9", "pay 2 1 0 0 8");
                least.is("sign 0 1 3", 1).does("pay 2 1 0 0 10").is("sign 0 1 3", 2).does("pay 2 1 0 0 11");
                least.is("sign 0 1 3", 2);
                matched();
            });
        says("book: its BOOKS at these BANKS, added; low: of the last seven DAYS that are KEPT that with the least of "
            + "these, added as KEPT of it (without any: book).", () -> {
                Run x = new Run().does("cash 0 0 50", "cash 0 1 7", "cash 0 3 900");
                x.is("sign 0 3 4", 57).is("sign 0 3 5", 57).is("sign 0 11 4", 957).is("sign 0 4 5", 0);
                x.does("cash 0 0 -50").is("sign 0 3 5", 7).days(1).does("cash 0 0 100", "cash 0 1 -7");
                // kept: 0 and 7 on day 1, 100 and 0 on day 2: neither bank's own least is added
                x.is("sign 0 3 4", 100).is("sign 0 3 5", 7).days(1).is("sign 0 3 5", 7).is("sign 0 2 5", 0);
                x.is("sign 0 1 5", 0).does("cash 0 1 500").days(1).is("sign 0 3 4", 600).is("sign 0 3 5", 7);
                x.days(4).is("look 0", 7).is("sign 0 3 5", 7).is("sign 0 1 5", 0).days(1).is("sign 0 3 5", 100);
                x.is("sign 0 1 5", 100).is("sign 0 2 5", 0).days(1).is("sign 0 3 5", 600).is("sign 0 2 5", 500);
                // on day 0 none is kept; then what is beneath the kept ones is not low
                Run y = new Run().does("cash 0 0 50").days(1).does("cash 0 0 -30").is("sign 0 1 4", 20).is("sign 0 1 5", 50);
            });
        says("It CRIES, if B of some line is so.", () -> {
            Run x = new Run().does("pay 1 1 0 0 100").is("sign 0 1 7", 0);
            x.law(4, "cry when turn=100;").is("sign 0 1 7", 1).is("sign 0 2 7", 0).is("sign 1 1 7", 0);
            x.law(4, "cry when turn=1;cry when count=1;cry when turn=2;").is("sign 0 1 7", 1);
            x.law(4, "cry when turn=1;cry when turn=2;").is("sign 0 1 7", 0).law(4, "").is("sign 0 1 7", 0);
            // each word is that sign
            Run y = Run.apart().does("cash 0 0 500", "pay 0 0 1 3 98").days(1);
            y.does("pay 1 1 0 0 100", "pay 1 3 0 0 107", "pay 1 1 0 0 300", "cash 0 0 -200");
            int[] due = {507, 3, 2, 2, 709, 402, 2};
            String[] words = {"turn", "count", "round", "match", "book", "low", "far"};
            y.row("sign 0 1", due);
            for (int i = 0; i < words.length; i++) {
                y.law(4, "cry when " + words[i] + "=" + due[i] + ";").is("sign 0 1 7", 1);
                y.law(4, "cry when " + words[i] + "<" + due[i] + ";").is("sign 0 1 7", 0);
                y.law(4, "cry when " + words[i] + ">" + due[i] + ";").is("sign 0 1 7", 0);
            }
        });
    }

    private static void matched() {
        // drawn by another, on another bank, returned, or not yet asked for: none
        Run x = new Run().does("cash 1 0 100", "cash 0 1 100", "cash 0 2 100");
        x.does("pay 1 0 3 3 100", "pay 0 1 3 3 100", "pay 0 0 3 3 101", "pay 2 1 0 0 100", "pay 0 2 3 3 100");
        x.days(1).does("pay 0 0 5 3 100").is("cheque 4 6", 1).is("cheque 2 6", 2).is("sign 0 1 3", 0);
        x.is("sign 0 15 3", 0);
        // by a set: one matches where it was paid in alone
        x.does("pay 2 1 0 2 100").is("sign 0 4 3", 1).is("sign 0 1 3", 0).is("sign 0 5 3", 1).is("sign 0 15 3", 1);
        // paid on day 1: it is one up to day 7
        Run y = new Run().does("cash 0 0 100", "pay 0 0 1 1 100").days(7).does("pay 2 1 0 0 100", "pay 2 1 0 0 105");
        y.is("sign 0 1 3", 2).days(1).is("sign 0 1 3", 0).is("sign 0 1 1", 2);
        // the day of its payment counts, not that on which it was drawn
        Run z = Run.apart().does("rail 0 1 5", "cash 0 0 100").does("pay 0 0 1 1 100").days(7);
        z.does("pay 2 1 0 0 100").is("cheque 0 9", 5).is("sign 0 1 3", 1).days(4).is("look 0", 11).is("sign 0 1 3", 1);
        z.days(1).is("sign 0 1 3", 0).is("sign 0 1 1", 1);
    }

    private static void cries() {
        says("KITERS are told as a set of HOUSES.", () -> {
            Run x = new Run().law(4, "cry when 1=1;").is("look 3", 0).is("cries 1 3", 0).yes("kiters 0");
            x.yes("kiters 63").is("look 3", 63).is("cries 1 1", 6).yes("kiters 5").is("look 3", 5).is("cries 1 1", 2);
            x.outside("kiters ?", 0, 63, 0).is("look 3", 5).yes("kiters 0").is("look 3", 0);
        });
        says("CRIES by a set of BANKS: the HOUSES for which it CRIES; HITS: KITERS of them, FALSE: others, MISSED: "
            + "KITERS that are none; SURE: 1000 HITS by HITS and FALSE.", () -> {
                Run x = new Run().law(4, "cry when count>0;");
                x.does("pay 5 0 0 1 10", "pay 5 0 1 1 10", "pay 5 0 2 1 10", "pay 5 0 3 2 10").yes("kiters 49");
                x.row("cries 2", 7, 1, 2, 2, 333).row("cries 4", 8, 0, 1, 3, 0).row("cries 6", 15, 1, 3, 2, 250);
                x.row("cries 9", 0, 0, 0, 3, -1).yes("kiters 3").row("cries 2", 7, 2, 1, 0, 666);
                x.row("cries 15", 15, 2, 2, 0, 500).yes("kiters 63").row("cries 2", 7, 3, 0, 3, 1000);
                x.yes("kiters 0").row("cries 2", 7, 0, 3, 0, 0).row("cries 1", 0, 0, 0, 0, -1);
                x.law(4, "cry when 1=1;").row("cries 1", 63, 0, 6, 0, 0);
            });
        says("LIKE ONES of a HOUSE by a set of BANKS: HOUSES that are no KITERS (it itself not) whose turn is not below "
            + "half of its (it by 2) and not above twice it: how many, and for how many of them it CRIES.", () -> {
                Run x = new Run().law(4, "cry when turn>20;");
                int[] turns = {21, 10, 9, 42, 43, 21};
                for (int house = 0; house < 6; house++) {
                    x.does("pay 0 0 " + house + " 1 " + turns[house]);
                }
                x.row("like 0 2", 3, 2, -1).row("like 5 2", 3, 2).row("like 1 2", 1, 0).row("like 2 2", 1, 0);
                x.row("like 3 2", 3, 3).row("like 4 2", 3, 3).yes("kiters 33").row("like 0 2", 2, 1);
                x.row("like 3 2", 1, 1).yes("kiters 8").row("like 0 2", 2, 1).row("like 3 2", 3, 3);
                // a turn is of all its cheques: 20 and 10 are not below half of 60
                Run y = new Run().does("pay 0 0 1 3 20", "pay 0 0 1 3 10", "pay 0 0 2 3 60", "pay 0 0 4 3 31");
                y.law(4, "cry when count=2;").row("like 2 8", 2, 1).row("like 1 8", 2, 0).row("like 4 8", 2, 1);
                x.yes("kiters 0").row("like 0 1", 5, 0).yes("kiters 63").row("like 0 2", 0, 0).row("like 0 1", 0, 0);
            });
        says("ALONE: behind each MORNING it is looked for each BANK alone and each HOUSE, by SIGNS as they are: the "
            + "first DAY on which it CRIES.", () -> {
                Run x = new Run().law(4, "cry when count>1;").does("pay 5 0 4 3 10", "pay 5 0 4 2 10");
                x.is("sign 4 12 7", 1).is("alone 4 3", -1).days(1).is("alone 4 3", -1).does("pay 5 0 4 3 10");
                x.is("sign 4 8 7", 1).is("alone 4 3", -1).days(1).is("alone 4 3", 2).is("alone 4 2", -1);
                x.law(4, "cry when 1=1;").is("alone 0 0", -1).days(1).is("alone 4 3", 2).is("alone 4 2", 3);
                x.is("alone 0 0", 3).is("alone 5 3", 3).law(4, "").days(1).is("alone 4 3", 2).is("alone 0 0", 3);
                // behind the morning: what came back and what is kept of the day count
                Run y = new Run().law(4, "cry when book<0;cry when low<50;").law(0, "fee 7;").does("cash 1 0 60");
                y.does("pay 0 0 1 1 5", "cash 2 1 60").days(1).is("alone 0 0", 1).is("alone 1 0", -1);
                y.does("cash 1 0 -20", "cash 1 0 30").is("alone 1 0", -1).days(5).is("alone 1 0", -1);
                y.days(1).does("cash 2 1 -20").is("alone 2 1", -1).days(1).is("alone 2 1", 8);
                // on a Sunday, too
                Run z = new Run().law(4, "cry when book=5;").days(5).does("cash 3 2 5").days(1).is("alone 3 2", 6);
            });
    }
}
